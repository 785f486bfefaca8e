section
-- ===== PART A: goes FIRST, ahead of the names: the tables' words, and 'selects' of the private methods out of them =====
/-- a private method of a class that the tables say can be made, by its rows of tables_1 -/
def lw_okq (q : MethodName × Nat) : Prop := (q.1.cls ≠ "java/lang/invoke/MethodHandle" ∧ q.1.cls ≠ "java/lang/invoke/VarHandle") ∧ Cond.instantiable q.1.cls q.2 ∈ tables_1 ∧ Cond.privateMethod q.1 ∈ tables_1 ∧ Cond.instanceMethod q.1 ∈ tables_1
theorem lw_p0 : lw_okq (⟨"SpeltRoutes", "refuse", "(I)I"⟩, 16) := ⟨⟨by decide +kernel, by decide +kernel⟩, List.mem_of_getElem? (i := 18) (by decide +kernel), List.mem_of_getElem? (i := 329) (by decide +kernel), List.mem_of_getElem? (i := 330) (by decide +kernel)⟩
theorem lw_p1 : lw_okq (⟨"SpeltRoutes", "graphChanged", "()V"⟩, 16) := ⟨⟨by decide +kernel, by decide +kernel⟩, List.mem_of_getElem? (i := 18) (by decide +kernel), List.mem_of_getElem? (i := 351) (by decide +kernel), List.mem_of_getElem? (i := 352) (by decide +kernel)⟩
theorem lw_p2 : lw_okq (⟨"SpeltRoutes", "keepAnswers", "()V"⟩, 16) := ⟨⟨by decide +kernel, by decide +kernel⟩, List.mem_of_getElem? (i := 18) (by decide +kernel), List.mem_of_getElem? (i := 360) (by decide +kernel), List.mem_of_getElem? (i := 361) (by decide +kernel)⟩
theorem lw_p3 : lw_okq (⟨"SpeltRoutes", "orRefused", "(I)I"⟩, 16) := ⟨⟨by decide +kernel, by decide +kernel⟩, List.mem_of_getElem? (i := 18) (by decide +kernel), List.mem_of_getElem? (i := 534) (by decide +kernel), List.mem_of_getElem? (i := 535) (by decide +kernel)⟩
theorem lw_p4 : lw_okq (⟨"SpeltRoutes", "refusalOf", "(III)I"⟩, 16) := ⟨⟨by decide +kernel, by decide +kernel⟩, List.mem_of_getElem? (i := 18) (by decide +kernel), List.mem_of_getElem? (i := 596) (by decide +kernel), List.mem_of_getElem? (i := 597) (by decide +kernel)⟩
theorem lw_p5 : lw_okq (⟨"SpeltRoutes", "answersOf", "(LSpeltRoutes$Expression;)I"⟩, 16) := ⟨⟨by decide +kernel, by decide +kernel⟩, List.mem_of_getElem? (i := 18) (by decide +kernel), List.mem_of_getElem? (i := 608) (by decide +kernel), List.mem_of_getElem? (i := 609) (by decide +kernel)⟩
theorem lw_p6 : lw_okq (⟨"SpeltRoutes", "isAnswerWithout", "(LSpeltRoutes$Expression;III)Z"⟩, 16) := ⟨⟨by decide +kernel, by decide +kernel⟩, List.mem_of_getElem? (i := 18) (by decide +kernel), List.mem_of_getElem? (i := 652) (by decide +kernel), List.mem_of_getElem? (i := 653) (by decide +kernel)⟩
theorem lw_p7 : lw_okq (⟨"SpeltRoutes", "placesOfAll", "()I"⟩, 16) := ⟨⟨by decide +kernel, by decide +kernel⟩, List.mem_of_getElem? (i := 18) (by decide +kernel), List.mem_of_getElem? (i := 685) (by decide +kernel), List.mem_of_getElem? (i := 686) (by decide +kernel)⟩
theorem lw_p8 : lw_okq (⟨"SpeltRoutesModel", "refuses", "(I)I"⟩, 33) := ⟨⟨by decide +kernel, by decide +kernel⟩, List.mem_of_getElem? (i := 697) (by decide +kernel), List.mem_of_getElem? (i := 813) (by decide +kernel), List.mem_of_getElem? (i := 814) (by decide +kernel)⟩
theorem lw_p9 : lw_okq (⟨"SpeltRoutesModel", "isThere", "(III)Z"⟩, 33) := ⟨⟨by decide +kernel, by decide +kernel⟩, List.mem_of_getElem? (i := 697) (by decide +kernel), List.mem_of_getElem? (i := 817) (by decide +kernel), List.mem_of_getElem? (i := 818) (by decide +kernel)⟩
theorem lw_p10 : lw_okq (⟨"SpeltRoutesModel", "fromOf", "(I)I"⟩, 33) := ⟨⟨by decide +kernel, by decide +kernel⟩, List.mem_of_getElem? (i := 697) (by decide +kernel), List.mem_of_getElem? (i := 821) (by decide +kernel), List.mem_of_getElem? (i := 822) (by decide +kernel)⟩
theorem lw_p11 : lw_okq (⟨"SpeltRoutesModel", "letterOf", "(I)I"⟩, 33) := ⟨⟨by decide +kernel, by decide +kernel⟩, List.mem_of_getElem? (i := 697) (by decide +kernel), List.mem_of_getElem? (i := 825) (by decide +kernel), List.mem_of_getElem? (i := 826) (by decide +kernel)⟩
theorem lw_p12 : lw_okq (⟨"SpeltRoutesModel", "toOf", "(I)I"⟩, 33) := ⟨⟨by decide +kernel, by decide +kernel⟩, List.mem_of_getElem? (i := 697) (by decide +kernel), List.mem_of_getElem? (i := 829) (by decide +kernel), List.mem_of_getElem? (i := 830) (by decide +kernel)⟩
theorem lw_p13 : lw_okq (⟨"SpeltRoutesModel", "adds", "(III)V"⟩, 33) := ⟨⟨by decide +kernel, by decide +kernel⟩, List.mem_of_getElem? (i := 697) (by decide +kernel), List.mem_of_getElem? (i := 833) (by decide +kernel), List.mem_of_getElem? (i := 834) (by decide +kernel)⟩
theorem lw_p14 : lw_okq (⟨"SpeltRoutesModel", "stays", "(Z)I"⟩, 33) := ⟨⟨by decide +kernel, by decide +kernel⟩, List.mem_of_getElem? (i := 697) (by decide +kernel), List.mem_of_getElem? (i := 837) (by decide +kernel), List.mem_of_getElem? (i := 838) (by decide +kernel)⟩
theorem lw_p15 : lw_okq (⟨"SpeltRoutesModel", "endsOf", "(II)I"⟩, 33) := ⟨⟨by decide +kernel, by decide +kernel⟩, List.mem_of_getElem? (i := 697) (by decide +kernel), List.mem_of_getElem? (i := 841) (by decide +kernel), List.mem_of_getElem? (i := 842) (by decide +kernel)⟩
def lw_privs_1 : List (MethodName × Nat) := [(⟨"SpeltRoutes", "refuse", "(I)I"⟩, 16), (⟨"SpeltRoutes", "graphChanged", "()V"⟩, 16), (⟨"SpeltRoutes", "keepAnswers", "()V"⟩, 16), (⟨"SpeltRoutes", "orRefused", "(I)I"⟩, 16), (⟨"SpeltRoutes", "refusalOf", "(III)I"⟩, 16), (⟨"SpeltRoutes", "answersOf", "(LSpeltRoutes$Expression;)I"⟩, 16), (⟨"SpeltRoutes", "isAnswerWithout", "(LSpeltRoutes$Expression;III)Z"⟩, 16), (⟨"SpeltRoutes", "placesOfAll", "()I"⟩, 16), (⟨"SpeltRoutesModel", "refuses", "(I)I"⟩, 33), (⟨"SpeltRoutesModel", "isThere", "(III)Z"⟩, 33), (⟨"SpeltRoutesModel", "fromOf", "(I)I"⟩, 33), (⟨"SpeltRoutesModel", "letterOf", "(I)I"⟩, 33), (⟨"SpeltRoutesModel", "toOf", "(I)I"⟩, 33), (⟨"SpeltRoutesModel", "adds", "(III)V"⟩, 33), (⟨"SpeltRoutesModel", "stays", "(Z)I"⟩, 33), (⟨"SpeltRoutesModel", "endsOf", "(II)I"⟩, 33)]
theorem lw_r1 : ∀ q ∈ lw_privs_1, lw_okq q := List.forall_mem_cons.mpr ⟨lw_p0, List.forall_mem_cons.mpr ⟨lw_p1, List.forall_mem_cons.mpr ⟨lw_p2, List.forall_mem_cons.mpr ⟨lw_p3, List.forall_mem_cons.mpr ⟨lw_p4, List.forall_mem_cons.mpr ⟨lw_p5, List.forall_mem_cons.mpr ⟨lw_p6, List.forall_mem_cons.mpr ⟨lw_p7, List.forall_mem_cons.mpr ⟨lw_p8, List.forall_mem_cons.mpr ⟨lw_p9, List.forall_mem_cons.mpr ⟨lw_p10, List.forall_mem_cons.mpr ⟨lw_p11, List.forall_mem_cons.mpr ⟨lw_p12, List.forall_mem_cons.mpr ⟨lw_p13, List.forall_mem_cons.mpr ⟨lw_p14, List.forall_mem_cons.mpr ⟨lw_p15, fun _ h => absurd h List.not_mem_nil⟩⟩⟩⟩⟩⟩⟩⟩⟩⟩⟩⟩⟩⟩⟩⟩
theorem lw_p16 : lw_okq (⟨"SpeltRoutesModel", "farOf", "(III)I"⟩, 33) := ⟨⟨by decide +kernel, by decide +kernel⟩, List.mem_of_getElem? (i := 697) (by decide +kernel), List.mem_of_getElem? (i := 845) (by decide +kernel), List.mem_of_getElem? (i := 846) (by decide +kernel)⟩
theorem lw_p17 : lw_okq (⟨"SpeltRoutesModel", "spreads", "(I)V"⟩, 33) := ⟨⟨by decide +kernel, by decide +kernel⟩, List.mem_of_getElem? (i := 697) (by decide +kernel), List.mem_of_getElem? (i := 850) (by decide +kernel), List.mem_of_getElem? (i := 851) (by decide +kernel)⟩
theorem lw_p18 : lw_okq (⟨"SpeltRoutesModel", "goes", "(III)I"⟩, 33) := ⟨⟨by decide +kernel, by decide +kernel⟩, List.mem_of_getElem? (i := 697) (by decide +kernel), List.mem_of_getElem? (i := 854) (by decide +kernel), List.mem_of_getElem? (i := 855) (by decide +kernel)⟩
theorem lw_p19 : lw_okq (⟨"SpeltRoutesModel", "readsAll", "()I"⟩, 33) := ⟨⟨by decide +kernel, by decide +kernel⟩, List.mem_of_getElem? (i := 697) (by decide +kernel), List.mem_of_getElem? (i := 892) (by decide +kernel), List.mem_of_getElem? (i := 893) (by decide +kernel)⟩
theorem lw_p20 : lw_okq (⟨"SpeltRoutesModel", "skips", "()V"⟩, 33) := ⟨⟨by decide +kernel, by decide +kernel⟩, List.mem_of_getElem? (i := 697) (by decide +kernel), List.mem_of_getElem? (i := 896) (by decide +kernel), List.mem_of_getElem? (i := 897) (by decide +kernel)⟩
theorem lw_p21 : lw_okq (⟨"SpeltRoutesModel", "byteAt", "(I)I"⟩, 33) := ⟨⟨by decide +kernel, by decide +kernel⟩, List.mem_of_getElem? (i := 697) (by decide +kernel), List.mem_of_getElem? (i := 900) (by decide +kernel), List.mem_of_getElem? (i := 901) (by decide +kernel)⟩
theorem lw_p22 : lw_okq (⟨"SpeltRoutesModel", "behind", "(Z)V"⟩, 33) := ⟨⟨by decide +kernel, by decide +kernel⟩, List.mem_of_getElem? (i := 697) (by decide +kernel), List.mem_of_getElem? (i := 907) (by decide +kernel), List.mem_of_getElem? (i := 908) (by decide +kernel)⟩
theorem lw_p23 : lw_okq (⟨"SpeltRoutesModel", "does", "(Z)V"⟩, 33) := ⟨⟨by decide +kernel, by decide +kernel⟩, List.mem_of_getElem? (i := 697) (by decide +kernel), List.mem_of_getElem? (i := 911) (by decide +kernel), List.mem_of_getElem? (i := 912) (by decide +kernel)⟩
theorem lw_p24 : lw_okq (⟨"SpeltRoutesModel", "joins", "(I)V"⟩, 33) := ⟨⟨by decide +kernel, by decide +kernel⟩, List.mem_of_getElem? (i := 697) (by decide +kernel), List.mem_of_getElem? (i := 915) (by decide +kernel), List.mem_of_getElem? (i := 916) (by decide +kernel)⟩
theorem lw_p25 : lw_okq (⟨"SpeltRoutesModel", "follows", "(II)V"⟩, 33) := ⟨⟨by decide +kernel, by decide +kernel⟩, List.mem_of_getElem? (i := 697) (by decide +kernel), List.mem_of_getElem? (i := 919) (by decide +kernel), List.mem_of_getElem? (i := 920) (by decide +kernel)⟩
theorem lw_p26 : lw_okq (⟨"SpeltRoutesModel", "part", "(III)V"⟩, 33) := ⟨⟨by decide +kernel, by decide +kernel⟩, List.mem_of_getElem? (i := 697) (by decide +kernel), List.mem_of_getElem? (i := 923) (by decide +kernel), List.mem_of_getElem? (i := 924) (by decide +kernel)⟩
theorem lw_p27 : lw_okq (⟨"SpeltRoutesModel", "depth", "()I"⟩, 33) := ⟨⟨by decide +kernel, by decide +kernel⟩, List.mem_of_getElem? (i := 697) (by decide +kernel), List.mem_of_getElem? (i := 927) (by decide +kernel), List.mem_of_getElem? (i := 928) (by decide +kernel)⟩
theorem lw_p28 : lw_okq (⟨"SpeltRoutesModel", "statesOf", "(I)I"⟩, 33) := ⟨⟨by decide +kernel, by decide +kernel⟩, List.mem_of_getElem? (i := 697) (by decide +kernel), List.mem_of_getElem? (i := 936) (by decide +kernel), List.mem_of_getElem? (i := 937) (by decide +kernel)⟩
theorem lw_p29 : lw_okq (⟨"SpeltRoutesModel", "ways", "(IIIIZ)I"⟩, 33) := ⟨⟨by decide +kernel, by decide +kernel⟩, List.mem_of_getElem? (i := 697) (by decide +kernel), List.mem_of_getElem? (i := 948) (by decide +kernel), List.mem_of_getElem? (i := 949) (by decide +kernel)⟩
theorem lw_p30 : lw_okq (⟨"SpeltRoutesModel", "steps", "(IZ)Z"⟩, 33) := ⟨⟨by decide +kernel, by decide +kernel⟩, List.mem_of_getElem? (i := 697) (by decide +kernel), List.mem_of_getElem? (i := 952) (by decide +kernel), List.mem_of_getElem? (i := 953) (by decide +kernel)⟩
theorem lw_p31 : lw_okq (⟨"SpeltRoutesModel", "turns", "(IIIIJ)Z"⟩, 33) := ⟨⟨by decide +kernel, by decide +kernel⟩, List.mem_of_getElem? (i := 697) (by decide +kernel), List.mem_of_getElem? (i := 956) (by decide +kernel), List.mem_of_getElem? (i := 957) (by decide +kernel)⟩
def lw_privs_2 : List (MethodName × Nat) := [(⟨"SpeltRoutesModel", "farOf", "(III)I"⟩, 33), (⟨"SpeltRoutesModel", "spreads", "(I)V"⟩, 33), (⟨"SpeltRoutesModel", "goes", "(III)I"⟩, 33), (⟨"SpeltRoutesModel", "readsAll", "()I"⟩, 33), (⟨"SpeltRoutesModel", "skips", "()V"⟩, 33), (⟨"SpeltRoutesModel", "byteAt", "(I)I"⟩, 33), (⟨"SpeltRoutesModel", "behind", "(Z)V"⟩, 33), (⟨"SpeltRoutesModel", "does", "(Z)V"⟩, 33), (⟨"SpeltRoutesModel", "joins", "(I)V"⟩, 33), (⟨"SpeltRoutesModel", "follows", "(II)V"⟩, 33), (⟨"SpeltRoutesModel", "part", "(III)V"⟩, 33), (⟨"SpeltRoutesModel", "depth", "()I"⟩, 33), (⟨"SpeltRoutesModel", "statesOf", "(I)I"⟩, 33), (⟨"SpeltRoutesModel", "ways", "(IIIIZ)I"⟩, 33), (⟨"SpeltRoutesModel", "steps", "(IZ)Z"⟩, 33), (⟨"SpeltRoutesModel", "turns", "(IIIIJ)Z"⟩, 33)]
theorem lw_r2 : ∀ q ∈ lw_privs_2, lw_okq q := List.forall_mem_cons.mpr ⟨lw_p16, List.forall_mem_cons.mpr ⟨lw_p17, List.forall_mem_cons.mpr ⟨lw_p18, List.forall_mem_cons.mpr ⟨lw_p19, List.forall_mem_cons.mpr ⟨lw_p20, List.forall_mem_cons.mpr ⟨lw_p21, List.forall_mem_cons.mpr ⟨lw_p22, List.forall_mem_cons.mpr ⟨lw_p23, List.forall_mem_cons.mpr ⟨lw_p24, List.forall_mem_cons.mpr ⟨lw_p25, List.forall_mem_cons.mpr ⟨lw_p26, List.forall_mem_cons.mpr ⟨lw_p27, List.forall_mem_cons.mpr ⟨lw_p28, List.forall_mem_cons.mpr ⟨lw_p29, List.forall_mem_cons.mpr ⟨lw_p30, List.forall_mem_cons.mpr ⟨lw_p31, fun _ h => absurd h List.not_mem_nil⟩⟩⟩⟩⟩⟩⟩⟩⟩⟩⟩⟩⟩⟩⟩⟩
theorem lw_p32 : lw_okq (⟨"SpeltRoutesModel", "numberOf", "(I)I"⟩, 33) := ⟨⟨by decide +kernel, by decide +kernel⟩, List.mem_of_getElem? (i := 697) (by decide +kernel), List.mem_of_getElem? (i := 960) (by decide +kernel), List.mem_of_getElem? (i := 961) (by decide +kernel)⟩
theorem lw_p33 : lw_okq (⟨"SpeltRoutesModel", "amiss", "(III)I"⟩, 33) := ⟨⟨by decide +kernel, by decide +kernel⟩, List.mem_of_getElem? (i := 697) (by decide +kernel), List.mem_of_getElem? (i := 974) (by decide +kernel), List.mem_of_getElem? (i := 975) (by decide +kernel)⟩
theorem lw_p34 : lw_okq (⟨"SpeltRoutesModel", "pairsOf", "(I)I"⟩, 33) := ⟨⟨by decide +kernel, by decide +kernel⟩, List.mem_of_getElem? (i := 697) (by decide +kernel), List.mem_of_getElem? (i := 986) (by decide +kernel), List.mem_of_getElem? (i := 987) (by decide +kernel)⟩
theorem lw_p35 : lw_okq (⟨"SpeltRoutesModel", "comes", "(III)I"⟩, 33) := ⟨⟨by decide +kernel, by decide +kernel⟩, List.mem_of_getElem? (i := 697) (by decide +kernel), List.mem_of_getElem? (i := 1002) (by decide +kernel), List.mem_of_getElem? (i := 1003) (by decide +kernel)⟩
theorem lw_p36 : lw_okq (⟨"SpeltRoutesModel", "standingOf", "(I)I"⟩, 33) := ⟨⟨by decide +kernel, by decide +kernel⟩, List.mem_of_getElem? (i := 697) (by decide +kernel), List.mem_of_getElem? (i := 1018) (by decide +kernel), List.mem_of_getElem? (i := 1019) (by decide +kernel)⟩
theorem lw_p37 : lw_okq (⟨"SpeltRoutesModel", "toldOf", "(I)I"⟩, 33) := ⟨⟨by decide +kernel, by decide +kernel⟩, List.mem_of_getElem? (i := 697) (by decide +kernel), List.mem_of_getElem? (i := 1043) (by decide +kernel), List.mem_of_getElem? (i := 1044) (by decide +kernel)⟩
def lw_privs_3 : List (MethodName × Nat) := [(⟨"SpeltRoutesModel", "numberOf", "(I)I"⟩, 33), (⟨"SpeltRoutesModel", "amiss", "(III)I"⟩, 33), (⟨"SpeltRoutesModel", "pairsOf", "(I)I"⟩, 33), (⟨"SpeltRoutesModel", "comes", "(III)I"⟩, 33), (⟨"SpeltRoutesModel", "standingOf", "(I)I"⟩, 33), (⟨"SpeltRoutesModel", "toldOf", "(I)I"⟩, 33)]
theorem lw_r3 : ∀ q ∈ lw_privs_3, lw_okq q := List.forall_mem_cons.mpr ⟨lw_p32, List.forall_mem_cons.mpr ⟨lw_p33, List.forall_mem_cons.mpr ⟨lw_p34, List.forall_mem_cons.mpr ⟨lw_p35, List.forall_mem_cons.mpr ⟨lw_p36, List.forall_mem_cons.mpr ⟨lw_p37, fun _ h => absurd h List.not_mem_nil⟩⟩⟩⟩⟩⟩
def lw_privs : List (MethodName × Nat) := lw_privs_1 ++ (lw_privs_2 ++ (lw_privs_3))
def lw_tbl : List Cond := k2_sels lw_privs ++ tables_1
theorem lw_privs_ok : ∀ q ∈ lw_privs, lw_okq q := by
  show ∀ q ∈ lw_privs_1 ++ (lw_privs_2 ++ (lw_privs_3)), lw_okq q
  exact List.forall_mem_append.mpr ⟨lw_r1, List.forall_mem_append.mpr ⟨lw_r2, lw_r3⟩⟩
-- ===== end of PART A; then your names; then what follows =====
end
section
/-! names of classes and methods, by program out of what TURN printed -/
def RX0 : String := "SpeltRoutes$Comparison"
def TX0 : u_T := fun k => match k with
  | _ => ("SpeltRoutes$Comparison", "pairsSeen", "LSpeltRoutes$Table;", true)
def tyX0 : Nat → FieldType := fun k => match k with
  | _ => .object "SpeltRoutes$Table"
theorem nmX0 : ∀ a, a < 1 → ∀ b, b < 1 → a ≠ b → (TX0 a).2.1 ≠ (TX0 b).2.1 := by decide +kernel
theorem tyX0_ok : ∀ k, k < 1 → parseFieldDescriptor (TX0 k).2.2.1 = some (tyX0 k) := by decide +kernel
abbrev cX0_init : ByteArray := prog_2_method_1_code
def yX0_init : MethodName := ⟨RX0, "<init>", "()V"⟩
abbrev cX0_statesOf : ByteArray := prog_2_method_2_code
def yX0_statesOf : MethodName := ⟨RX0, "statesOf", "(LSpeltRoutes$Expression;)I"⟩
abbrev cX0_shortestBeyond : ByteArray := prog_2_method_3_code
def yX0_shortestBeyond : MethodName := ⟨RX0, "shortestBeyond", "(LSpeltRoutes$Expression;LSpeltRoutes$Expression;I)I"⟩
abbrev cX0_pairOf : ByteArray := prog_2_method_4_code
def yX0_pairOf : MethodName := ⟨RX0, "pairOf", "(II)J"⟩
abbrev cX0_tellsApart : ByteArray := prog_2_method_5_code
def yX0_tellsApart : MethodName := ⟨RX0, "tellsApart", "(LSpeltRoutes$Expression;LSpeltRoutes$Expression;II)Z"⟩
abbrev cX0_widens : ByteArray := prog_2_method_6_code
def yX0_widens : MethodName := ⟨RX0, "widens", "(LSpeltRoutes$Expression;LSpeltRoutes$Expression;II)Z"⟩
def RX1 : String := "SpeltRoutes$Edges"
def TX1 : u_T := fun k => match k with
  | 0 => ("SpeltRoutes$Edges", "from", "[I", true)
  | 1 => ("SpeltRoutes$Edges", "letter", "[I", true)
  | 2 => ("SpeltRoutes$Edges", "to", "[I", true)
  | _ => ("SpeltRoutes$Edges", "size", "I", false)
def tyX1 : Nat → FieldType := fun k => match k with
  | 0 => .array .int
  | 1 => .array .int
  | 2 => .array .int
  | _ => .int
theorem nmX1 : ∀ a, a < 4 → ∀ b, b < 4 → a ≠ b → (TX1 a).2.1 ≠ (TX1 b).2.1 := by decide +kernel
theorem tyX1_ok : ∀ k, k < 4 → parseFieldDescriptor (TX1 k).2.2.1 = some (tyX1 k) := by decide +kernel
abbrev cX1_init : ByteArray := prog_3_method_1_code
def yX1_init : MethodName := ⟨RX1, "<init>", "()V"⟩
abbrev cX1_isEdge : ByteArray := prog_3_method_2_code
def yX1_isEdge : MethodName := ⟨RX1, "isEdge", "(I)Z"⟩
abbrev cX1_has : ByteArray := prog_3_method_3_code
def yX1_has : MethodName := ⟨RX1, "has", "(III)Z"⟩
abbrev cX1_put : ByteArray := prog_3_method_4_code
def yX1_put : MethodName := ⟨RX1, "put", "(III)V"⟩
abbrev cX1_remove : ByteArray := prog_3_method_5_code
def yX1_remove : MethodName := ⟨RX1, "remove", "(I)V"⟩
abbrev cX1_spell : ByteArray := prog_3_method_6_code
def yX1_spell : MethodName := ⟨RX1, "spell", "(LSpeltRoutes$Steps;I)V"⟩
def RX2 : String := "SpeltRoutes$Expression"
def TX2 : u_T := fun k => match k with
  | 0 => ("SpeltRoutes$Expression", "follow", "[I", true)
  | 1 => ("SpeltRoutes$Expression", "bearing", "[I", true)
  | 2 => ("SpeltRoutes$Expression", "last", "I", false)
  | 3 => ("SpeltRoutes$Expression", "places", "I", false)
  | _ => ("SpeltRoutes$Expression", "isTold", "Z", false)
def tyX2 : Nat → FieldType := fun k => match k with
  | 0 => .array .int
  | 1 => .array .int
  | 2 => .int
  | 3 => .int
  | _ => .boolean
theorem nmX2 : ∀ a, a < 5 → ∀ b, b < 5 → a ≠ b → (TX2 a).2.1 ≠ (TX2 b).2.1 := by decide +kernel
theorem tyX2_ok : ∀ k, k < 5 → parseFieldDescriptor (TX2 k).2.2.1 = some (tyX2 k) := by decide +kernel
abbrev cX2_init : ByteArray := prog_4_method_1_code
def yX2_init : MethodName := ⟨RX2, "<init>", "()V"⟩
abbrev cX2_wipe : ByteArray := prog_4_method_2_code
def yX2_wipe : MethodName := ⟨RX2, "wipe", "()V"⟩
abbrev cX2_become : ByteArray := prog_4_method_3_code
def yX2_become : MethodName := ⟨RX2, "become", "(LSpeltRoutes$Expression;)V"⟩
abbrev cX2_newPlace : ByteArray := prog_4_method_4_code
def yX2_newPlace : MethodName := ⟨RX2, "newPlace", "(I)I"⟩
abbrev cX2_link : ByteArray := prog_4_method_5_code
def yX2_link : MethodName := ⟨RX2, "link", "(II)V"⟩
abbrev cX2_finishes : ByteArray := prog_4_method_6_code
def yX2_finishes : MethodName := ⟨RX2, "finishes", "(I)Z"⟩
abbrev cX2_behind : ByteArray := prog_4_method_7_code
def yX2_behind : MethodName := ⟨RX2, "behind", "(I)I"⟩
abbrev cX2_aheadOf : ByteArray := prog_4_method_8_code
def yX2_aheadOf : MethodName := ⟨RX2, "aheadOf", "(I)I"⟩
abbrev cX2_after : ByteArray := prog_4_method_9_code
def yX2_after : MethodName := ⟨RX2, "after", "(II)I"⟩
def RX3 : String := "SpeltRoutes$Reach"
def TX3 : u_T := fun k => match k with
  | 0 => ("SpeltRoutes$Reach", "seen", "[I", true)
  | 1 => ("SpeltRoutes$Reach", "fresh", "[I", true)
  | _ => ("SpeltRoutes$Reach", "going", "[I", true)
def tyX3 : Nat → FieldType := fun k => match k with
  | 0 => .array .int
  | 1 => .array .int
  | _ => .array .int
theorem nmX3 : ∀ a, a < 3 → ∀ b, b < 3 → a ≠ b → (TX3 a).2.1 ≠ (TX3 b).2.1 := by decide +kernel
theorem tyX3_ok : ∀ k, k < 3 → parseFieldDescriptor (TX3 k).2.2.1 = some (tyX3 k) := by decide +kernel
abbrev cX3_init : ByteArray := prog_5_method_1_code
def yX3_init : MethodName := ⟨RX3, "<init>", "()V"⟩
abbrev cX3_endsFrom : ByteArray := prog_5_method_2_code
def yX3_endsFrom : MethodName := ⟨RX3, "endsFrom", "(LSpeltRoutes$Expression;LSpeltRoutes$Steps;I)I"⟩
abbrev cX3_spreads : ByteArray := prog_5_method_3_code
def yX3_spreads : MethodName := ⟨RX3, "spreads", "(LSpeltRoutes$Expression;LSpeltRoutes$Steps;)Z"⟩
def RX4 : String := "SpeltRoutes$Reader"
def TX4 : u_T := fun k => match k with
  | 0 => ("SpeltRoutes$Reader", "draft", "LSpeltRoutes$Expression;", true)
  | 1 => ("SpeltRoutes$Reader", "rowFirst", "[I", true)
  | 2 => ("SpeltRoutes$Reader", "rowLast", "[I", true)
  | 3 => ("SpeltRoutes$Reader", "choiceFirst", "[I", true)
  | 4 => ("SpeltRoutes$Reader", "choiceLast", "[I", true)
  | 5 => ("SpeltRoutes$Reader", "depth", "I", false)
  | 6 => ("SpeltRoutes$Reader", "partFirst", "I", false)
  | 7 => ("SpeltRoutes$Reader", "partLast", "I", false)
  | _ => ("SpeltRoutes$Reader", "stage", "I", false)
def tyX4 : Nat → FieldType := fun k => match k with
  | 0 => .object "SpeltRoutes$Expression"
  | 1 => .array .int
  | 2 => .array .int
  | 3 => .array .int
  | 4 => .array .int
  | 5 => .int
  | 6 => .int
  | 7 => .int
  | _ => .int
theorem nmX4 : ∀ a, a < 9 → ∀ b, b < 9 → a ≠ b → (TX4 a).2.1 ≠ (TX4 b).2.1 := by decide +kernel
theorem tyX4_ok : ∀ k, k < 9 → parseFieldDescriptor (TX4 k).2.2.1 = some (tyX4 k) := by decide +kernel
abbrev cX4_init : ByteArray := prog_6_method_1_code
def yX4_init : MethodName := ⟨RX4, "<init>", "()V"⟩
abbrev cX4_faultOf : ByteArray := prog_6_method_2_code
def yX4_faultOf : MethodName := ⟨RX4, "faultOf", "([II)I"⟩
abbrev cX4_takes : ByteArray := prog_6_method_3_code
def yX4_takes : MethodName := ⟨RX4, "takes", "(I)Z"⟩
abbrev cX4_signsOf : ByteArray := prog_6_method_4_code
def yX4_signsOf : MethodName := ⟨RX4, "signsOf", "(I)I"⟩
abbrev cX4_takesPlace : ByteArray := prog_6_method_5_code
def yX4_takesPlace : MethodName := ⟨RX4, "takesPlace", "(I)Z"⟩
abbrev cX4_opens : ByteArray := prog_6_method_6_code
def yX4_opens : MethodName := ⟨RX4, "opens", "()Z"⟩
abbrev cX4_closes : ByteArray := prog_6_method_7_code
def yX4_closes : MethodName := ⟨RX4, "closes", "()Z"⟩
abbrev cX4_turns : ByteArray := prog_6_method_8_code
def yX4_turns : MethodName := ⟨RX4, "turns", "()Z"⟩
abbrev cX4_repeats : ByteArray := prog_6_method_9_code
def yX4_repeats : MethodName := ⟨RX4, "repeats", "(I)Z"⟩
abbrev cX4_beginChoice : ByteArray := prog_6_method_10_code
def yX4_beginChoice : MethodName := ⟨RX4, "beginChoice", "()V"⟩
abbrev cX4_beginRow : ByteArray := prog_6_method_11_code
def yX4_beginRow : MethodName := ⟨RX4, "beginRow", "()V"⟩
abbrev cX4_openPart : ByteArray := prog_6_method_12_code
def yX4_openPart : MethodName := ⟨RX4, "openPart", "(II)V"⟩
abbrev cX4_closePart : ByteArray := prog_6_method_13_code
def yX4_closePart : MethodName := ⟨RX4, "closePart", "()V"⟩
abbrev cX4_closeRow : ByteArray := prog_6_method_14_code
def yX4_closeRow : MethodName := ⟨RX4, "closeRow", "()V"⟩
def RX5 : String := "SpeltRoutes$Shortest"
def TX5 : u_T := fun k => match k with
  | 0 => ("SpeltRoutes$Shortest", "left", "[I", true)
  | 1 => ("SpeltRoutes$Shortest", "seen", "[I", true)
  | _ => ("SpeltRoutes$Shortest", "path", "[I", true)
def tyX5 : Nat → FieldType := fun k => match k with
  | 0 => .array .int
  | 1 => .array .int
  | _ => .array .int
theorem nmX5 : ∀ a, a < 3 → ∀ b, b < 3 → a ≠ b → (TX5 a).2.1 ≠ (TX5 b).2.1 := by decide +kernel
theorem tyX5_ok : ∀ k, k < 3 → parseFieldDescriptor (TX5 k).2.2.1 = some (tyX5 k) := by decide +kernel
abbrev cX5_init : ByteArray := prog_7_method_1_code
def yX5_init : MethodName := ⟨RX5, "<init>", "()V"⟩
abbrev cX5_lengthOf : ByteArray := prog_7_method_2_code
def yX5_lengthOf : MethodName := ⟨RX5, "lengthOf", "(LSpeltRoutes$Expression;LSpeltRoutes$Steps;II)I"⟩
abbrev cX5_widens : ByteArray := prog_7_method_3_code
def yX5_widens : MethodName := ⟨RX5, "widens", "(LSpeltRoutes$Expression;LSpeltRoutes$Steps;I)Z"⟩
abbrev cX5_trace : ByteArray := prog_7_method_4_code
def yX5_trace : MethodName := ⟨RX5, "trace", "(LSpeltRoutes$Expression;LSpeltRoutes$Steps;II)I"⟩
abbrev cX5_firstStep : ByteArray := prog_7_method_5_code
def yX5_firstStep : MethodName := ⟨RX5, "firstStep", "(LSpeltRoutes$Expression;LSpeltRoutes$Steps;III)I"⟩
def RX6 : String := "SpeltRoutes$Standing"
def TX6 : u_T := fun k => match k with
  | 0 => ("SpeltRoutes$Standing", "rows", "[I", true)
  | 1 => ("SpeltRoutes$Standing", "which", "I", false)
  | 2 => ("SpeltRoutes$Standing", "came", "I", false)
  | _ => ("SpeltRoutes$Standing", "lost", "I", false)
def tyX6 : Nat → FieldType := fun k => match k with
  | 0 => .array .int
  | 1 => .int
  | 2 => .int
  | _ => .int
theorem nmX6 : ∀ a, a < 4 → ∀ b, b < 4 → a ≠ b → (TX6 a).2.1 ≠ (TX6 b).2.1 := by decide +kernel
theorem tyX6_ok : ∀ k, k < 4 → parseFieldDescriptor (TX6 k).2.2.1 = some (tyX6 k) := by decide +kernel
abbrev cX6_init : ByteArray := prog_8_method_1_code
def yX6_init : MethodName := ⟨RX6, "<init>", "()V"⟩
abbrev cX6_size : ByteArray := prog_8_method_2_code
def yX6_size : MethodName := ⟨RX6, "size", "()I"⟩
def RX7 : String := "SpeltRoutes$Steps"
def TX7 : u_T := fun k => match k with
  | 0 => ("SpeltRoutes$Steps", "from", "[I", true)
  | 1 => ("SpeltRoutes$Steps", "sign", "[I", true)
  | 2 => ("SpeltRoutes$Steps", "to", "[I", true)
  | 3 => ("SpeltRoutes$Steps", "edge", "[I", true)
  | _ => ("SpeltRoutes$Steps", "size", "I", false)
def tyX7 : Nat → FieldType := fun k => match k with
  | 0 => .array .int
  | 1 => .array .int
  | 2 => .array .int
  | 3 => .array .int
  | _ => .int
theorem nmX7 : ∀ a, a < 5 → ∀ b, b < 5 → a ≠ b → (TX7 a).2.1 ≠ (TX7 b).2.1 := by decide +kernel
theorem tyX7_ok : ∀ k, k < 5 → parseFieldDescriptor (TX7 k).2.2.1 = some (tyX7 k) := by decide +kernel
abbrev cX7_init : ByteArray := prog_9_method_1_code
def yX7_init : MethodName := ⟨RX7, "<init>", "()V"⟩
abbrev cX7_put : ByteArray := prog_9_method_2_code
def yX7_put : MethodName := ⟨RX7, "put", "(IIII)V"⟩
def RX8 : String := "SpeltRoutes$Table"
def TX8 : u_T := fun k => match k with
  | 0 => ("SpeltRoutes$Table", "keys", "[J", true)
  | 1 => ("SpeltRoutes$Table", "slots", "[I", true)
  | 2 => ("SpeltRoutes$Table", "size", "I", false)
  | _ => ("SpeltRoutes$Table", "limit", "I", false)
def tyX8 : Nat → FieldType := fun k => match k with
  | 0 => .array .long
  | 1 => .array .int
  | 2 => .int
  | _ => .int
theorem nmX8 : ∀ a, a < 4 → ∀ b, b < 4 → a ≠ b → (TX8 a).2.1 ≠ (TX8 b).2.1 := by decide +kernel
theorem tyX8_ok : ∀ k, k < 4 → parseFieldDescriptor (TX8 k).2.2.1 = some (tyX8 k) := by decide +kernel
abbrev cX8_init : ByteArray := prog_10_method_1_code
def yX8_init : MethodName := ⟨RX8, "<init>", "()V"⟩
abbrev cX8_reset : ByteArray := prog_10_method_2_code
def yX8_reset : MethodName := ⟨RX8, "reset", "(I)V"⟩
abbrev cX8_numberOf : ByteArray := prog_10_method_3_code
def yX8_numberOf : MethodName := ⟨RX8, "numberOf", "(J)I"⟩
def RX9 : String := "SpeltRoutes$Tally"
def TX9 : u_T := fun k => match k with
  | 0 => ("SpeltRoutes$Tally", "states", "LSpeltRoutes$Table;", true)
  | 1 => ("SpeltRoutes$Tally", "nextState", "[I", true)
  | 2 => ("SpeltRoutes$Tally", "ways", "[I", false)
  | _ => ("SpeltRoutes$Tally", "waysThen", "[I", false)
def tyX9 : Nat → FieldType := fun k => match k with
  | 0 => .object "SpeltRoutes$Table"
  | 1 => .array .int
  | 2 => .array .int
  | _ => .array .int
theorem nmX9 : ∀ a, a < 4 → ∀ b, b < 4 → a ≠ b → (TX9 a).2.1 ≠ (TX9 b).2.1 := by decide +kernel
theorem tyX9_ok : ∀ k, k < 4 → parseFieldDescriptor (TX9 k).2.2.1 = some (tyX9 k) := by decide +kernel
abbrev cX9_init : ByteArray := prog_11_method_1_code
def yX9_init : MethodName := ⟨RX9, "<init>", "()V"⟩
abbrev cX9_routesOf : ByteArray := prog_11_method_2_code
def yX9_routesOf : MethodName := ⟨RX9, "routesOf", "(LSpeltRoutes$Expression;LSpeltRoutes$Steps;III)I"⟩
abbrev cX9_total : ByteArray := prog_11_method_3_code
def yX9_total : MethodName := ⟨RX9, "total", "(LSpeltRoutes$Expression;I)I"⟩
abbrev cX9_advances : ByteArray := prog_11_method_4_code
def yX9_advances : MethodName := ⟨RX9, "advances", "(LSpeltRoutes$Expression;LSpeltRoutes$Steps;)Z"⟩
abbrev cX9_advancesFrom : ByteArray := prog_11_method_5_code
def yX9_advancesFrom : MethodName := ⟨RX9, "advancesFrom", "(LSpeltRoutes$Expression;LSpeltRoutes$Steps;I)Z"⟩
abbrev cX9_stateBehind : ByteArray := prog_11_method_6_code
def yX9_stateBehind : MethodName := ⟨RX9, "stateBehind", "(LSpeltRoutes$Expression;II)I"⟩
abbrev cX9_stateOf : ByteArray := prog_11_method_7_code
def yX9_stateOf : MethodName := ⟨RX9, "stateOf", "(I)I"⟩
def RX10 : String := "SpeltRoutes"
def TX10 : u_T := fun k => match k with
  | 0 => ("SpeltRoutes", "edges", "LSpeltRoutes$Edges;", true)
  | 1 => ("SpeltRoutes", "steps", "LSpeltRoutes$Steps;", true)
  | 2 => ("SpeltRoutes", "fewerSteps", "LSpeltRoutes$Steps;", true)
  | 3 => ("SpeltRoutes", "anySign", "LSpeltRoutes$Steps;", true)
  | 4 => ("SpeltRoutes", "text", "[I", true)
  | 5 => ("SpeltRoutes", "textLength", "I", false)
  | 6 => ("SpeltRoutes", "expressions", "[LSpeltRoutes$Expression;", true)
  | 7 => ("SpeltRoutes", "reader", "LSpeltRoutes$Reader;", true)
  | 8 => ("SpeltRoutes", "reach", "LSpeltRoutes$Reach;", true)
  | 9 => ("SpeltRoutes", "shortest", "LSpeltRoutes$Shortest;", true)
  | 10 => ("SpeltRoutes", "tally", "LSpeltRoutes$Tally;", true)
  | 11 => ("SpeltRoutes", "comparison", "LSpeltRoutes$Comparison;", true)
  | 12 => ("SpeltRoutes", "stood", "LSpeltRoutes$Standing;", true)
  | 13 => ("SpeltRoutes", "badOnes", "I", false)
  | 14 => ("SpeltRoutes", "noOnes", "I", false)
  | _ => ("SpeltRoutes", "fullOnes", "I", false)
def tyX10 : Nat → FieldType := fun k => match k with
  | 0 => .object "SpeltRoutes$Edges"
  | 1 => .object "SpeltRoutes$Steps"
  | 2 => .object "SpeltRoutes$Steps"
  | 3 => .object "SpeltRoutes$Steps"
  | 4 => .array .int
  | 5 => .int
  | 6 => .array (.object "SpeltRoutes$Expression")
  | 7 => .object "SpeltRoutes$Reader"
  | 8 => .object "SpeltRoutes$Reach"
  | 9 => .object "SpeltRoutes$Shortest"
  | 10 => .object "SpeltRoutes$Tally"
  | 11 => .object "SpeltRoutes$Comparison"
  | 12 => .object "SpeltRoutes$Standing"
  | 13 => .int
  | 14 => .int
  | _ => .int
theorem nmX10 : ∀ a, a < 16 → ∀ b, b < 16 → a ≠ b → (TX10 a).2.1 ≠ (TX10 b).2.1 := by decide +kernel
theorem tyX10_ok : ∀ k, k < 16 → parseFieldDescriptor (TX10 k).2.2.1 = some (tyX10 k) := by decide +kernel
abbrev cX10_init : ByteArray := prog_1_method_1_code
def yX10_init : MethodName := ⟨RX10, "<init>", "()V"⟩
abbrev cX10_edge : ByteArray := prog_1_method_2_code
def yX10_edge : MethodName := ⟨RX10, "edge", "(III)I"⟩
abbrev cX10_drop : ByteArray := prog_1_method_3_code
def yX10_drop : MethodName := ⟨RX10, "drop", "(I)I"⟩
abbrev cX10_anew : ByteArray := prog_1_method_4_code
def yX10_anew : MethodName := ⟨RX10, "anew", "()I"⟩
abbrev cX10_of : ByteArray := prog_1_method_5_code
def yX10_of : MethodName := ⟨RX10, "of", "(II)I"⟩
abbrev cX10_degree : ByteArray := prog_1_method_6_code
def yX10_degree : MethodName := ⟨RX10, "degree", "(II)I"⟩
abbrev cX10_type : ByteArray := prog_1_method_7_code
def yX10_type : MethodName := ⟨RX10, "type", "(I)I"⟩
abbrev cX10_clear : ByteArray := prog_1_method_8_code
def yX10_clear : MethodName := ⟨RX10, "clear", "()I"⟩
abbrev cX10_reads : ByteArray := prog_1_method_9_code
def yX10_reads : MethodName := ⟨RX10, "reads", "(I)I"⟩
abbrev cX10_about : ByteArray := prog_1_method_10_code
def yX10_about : MethodName := ⟨RX10, "about", "(II)I"⟩
abbrev cX10_accepts : ByteArray := prog_1_method_11_code
def yX10_accepts : MethodName := ⟨RX10, "accepts", "(III)I"⟩
abbrev cX10_words : ByteArray := prog_1_method_12_code
def yX10_words : MethodName := ⟨RX10, "words", "(II)I"⟩
abbrev cX10_beyond : ByteArray := prog_1_method_13_code
def yX10_beyond : MethodName := ⟨RX10, "beyond", "(II)I"⟩
abbrev cX10_answers : ByteArray := prog_1_method_14_code
def yX10_answers : MethodName := ⟨RX10, "answers", "(III)I"⟩
abbrev cX10_ends : ByteArray := prog_1_method_15_code
def yX10_ends : MethodName := ⟨RX10, "ends", "(II)I"⟩
abbrev cX10_pairs : ByteArray := prog_1_method_16_code
def yX10_pairs : MethodName := ⟨RX10, "pairs", "(I)I"⟩
abbrev cX10_far : ByteArray := prog_1_method_17_code
def yX10_far : MethodName := ⟨RX10, "far", "(III)I"⟩
abbrev cX10_count : ByteArray := prog_1_method_18_code
def yX10_count : MethodName := ⟨RX10, "count", "(IIII)I"⟩
abbrev cX10_route : ByteArray := prog_1_method_19_code
def yX10_route : MethodName := ⟨RX10, "route", "(IIIII)I"⟩
abbrev cX10_bridge : ByteArray := prog_1_method_20_code
def yX10_bridge : MethodName := ⟨RX10, "bridge", "(III)I"⟩
abbrev cX10_stand : ByteArray := prog_1_method_21_code
def yX10_stand : MethodName := ⟨RX10, "stand", "(I)I"⟩
abbrev cX10_standing : ByteArray := prog_1_method_22_code
def yX10_standing : MethodName := ⟨RX10, "standing", "(I)I"⟩
abbrev cX10_kept : ByteArray := prog_1_method_23_code
def yX10_kept : MethodName := ⟨RX10, "kept", "(II)I"⟩
abbrev cX10_draw : ByteArray := prog_1_method_24_code
def yX10_draw : MethodName := ⟨RX10, "draw", "(II)I"⟩
abbrev cX10_told : ByteArray := prog_1_method_25_code
def yX10_told : MethodName := ⟨RX10, "told", "(I)I"⟩
abbrev cX10_digest : ByteArray := prog_1_method_26_code
def yX10_digest : MethodName := ⟨RX10, "digest", "()J"⟩
abbrev cX10_isVertex : ByteArray := prog_1_method_27_code
def yX10_isVertex : MethodName := ⟨RX10, "isVertex", "(I)Z"⟩
abbrev cX10_isExpression : ByteArray := prog_1_method_28_code
def yX10_isExpression : MethodName := ⟨RX10, "isExpression", "(I)Z"⟩
abbrev cX10_isWord : ByteArray := prog_1_method_29_code
def yX10_isWord : MethodName := ⟨RX10, "isWord", "(II)Z"⟩
abbrev cX10_refusalOf : ByteArray := prog_1_method_30_code
def yX10_refusalOf : MethodName := ⟨RX10, "refusalOf", "(III)I"⟩
abbrev cX10_refuse : ByteArray := prog_1_method_31_code
def yX10_refuse : MethodName := ⟨RX10, "refuse", "(I)I"⟩
abbrev cX10_orRefused : ByteArray := prog_1_method_32_code
def yX10_orRefused : MethodName := ⟨RX10, "orRefused", "(I)I"⟩
abbrev cX10_placesOfAll : ByteArray := prog_1_method_33_code
def yX10_placesOfAll : MethodName := ⟨RX10, "placesOfAll", "()I"⟩
abbrev cX10_answersOf : ByteArray := prog_1_method_34_code
def yX10_answersOf : MethodName := ⟨RX10, "answersOf", "(LSpeltRoutes$Expression;)I"⟩
abbrev cX10_isAnswerWithout : ByteArray := prog_1_method_35_code
def yX10_isAnswerWithout : MethodName := ⟨RX10, "isAnswerWithout", "(LSpeltRoutes$Expression;III)Z"⟩
abbrev cX10_graphChanged : ByteArray := prog_1_method_36_code
def yX10_graphChanged : MethodName := ⟨RX10, "graphChanged", "()V"⟩
abbrev cX10_keepAnswers : ByteArray := prog_1_method_37_code
def yX10_keepAnswers : MethodName := ⟨RX10, "keepAnswers", "()V"⟩
def RX11 : String := "SpeltRoutesModel"
def TX11 : u_T := fun k => match k with
  | 0 => ("SpeltRoutesModel", "edges", "[I", true)
  | 1 => ("SpeltRoutesModel", "many", "I", false)
  | 2 => ("SpeltRoutesModel", "refused", "[I", true)
  | 3 => ("SpeltRoutesModel", "text", "[I", true)
  | 4 => ("SpeltRoutesModel", "typed", "I", false)
  | 5 => ("SpeltRoutesModel", "places", "[I", true)
  | 6 => ("SpeltRoutesModel", "next", "[I", true)
  | 7 => ("SpeltRoutesModel", "signs", "[I", true)
  | 8 => ("SpeltRoutesModel", "ends", "[I", true)
  | 9 => ("SpeltRoutesModel", "stands", "I", false)
  | 10 => ("SpeltRoutesModel", "kept", "[I", true)
  | 11 => ("SpeltRoutesModel", "came", "I", false)
  | 12 => ("SpeltRoutesModel", "lost", "I", false)
  | 13 => ("SpeltRoutesModel", "draft", "[I", true)
  | 14 => ("SpeltRoutesModel", "draftSigns", "[I", true)
  | 15 => ("SpeltRoutesModel", "drafted", "I", false)
  | 16 => ("SpeltRoutesModel", "at", "I", false)
  | 17 => ("SpeltRoutesModel", "open", "[I", true)
  | 18 => ("SpeltRoutesModel", "opened", "I", false)
  | 19 => ("SpeltRoutesModel", "empty", "[I", true)
  | 20 => ("SpeltRoutesModel", "firsts", "[I", true)
  | 21 => ("SpeltRoutesModel", "lasts", "[I", true)
  | 22 => ("SpeltRoutesModel", "parts", "I", false)
  | 23 => ("SpeltRoutesModel", "bits", "[I", true)
  | 24 => ("SpeltRoutesModel", "later", "[I", true)
  | 25 => ("SpeltRoutesModel", "seen", "[I", true)
  | 26 => ("SpeltRoutesModel", "back", "[I", true)
  | 27 => ("SpeltRoutesModel", "states", "[I", true)
  | 28 => ("SpeltRoutesModel", "others", "[I", true)
  | 29 => ("SpeltRoutesModel", "sets", "I", false)
  | 30 => ("SpeltRoutesModel", "times", "[J", true)
  | 31 => ("SpeltRoutesModel", "newTimes", "[J", true)
  | _ => ("SpeltRoutesModel", "left", "I", false)
def tyX11 : Nat → FieldType := fun k => match k with
  | 0 => .array .int
  | 1 => .int
  | 2 => .array .int
  | 3 => .array .int
  | 4 => .int
  | 5 => .array .int
  | 6 => .array .int
  | 7 => .array .int
  | 8 => .array .int
  | 9 => .int
  | 10 => .array .int
  | 11 => .int
  | 12 => .int
  | 13 => .array .int
  | 14 => .array .int
  | 15 => .int
  | 16 => .int
  | 17 => .array .int
  | 18 => .int
  | 19 => .array .int
  | 20 => .array .int
  | 21 => .array .int
  | 22 => .int
  | 23 => .array .int
  | 24 => .array .int
  | 25 => .array .int
  | 26 => .array .int
  | 27 => .array .int
  | 28 => .array .int
  | 29 => .int
  | 30 => .array .long
  | 31 => .array .long
  | _ => .int
theorem nmX11 : ∀ a, a < 33 → ∀ b, b < 33 → a ≠ b → (TX11 a).2.1 ≠ (TX11 b).2.1 := by decide +kernel
theorem tyX11_ok : ∀ k, k < 33 → parseFieldDescriptor (TX11 k).2.2.1 = some (tyX11 k) := by decide +kernel
abbrev cX11_init : ByteArray := prog_13_method_1_code
def yX11_init : MethodName := ⟨RX11, "<init>", "()V"⟩
abbrev cX11_in : ByteArray := prog_13_method_3_code
def yX11_in : MethodName := ⟨RX11, "in", "(III)Z"⟩
abbrev cX11_refuses : ByteArray := prog_13_method_4_code
def yX11_refuses : MethodName := ⟨RX11, "refuses", "(I)I"⟩
abbrev cX11_isVertex : ByteArray := prog_13_method_5_code
def yX11_isVertex : MethodName := ⟨RX11, "isVertex", "(I)Z"⟩
abbrev cX11_isOne : ByteArray := prog_13_method_6_code
def yX11_isOne : MethodName := ⟨RX11, "isOne", "(I)Z"⟩
abbrev cX11_ones : ByteArray := prog_13_method_7_code
def yX11_ones : MethodName := ⟨RX11, "ones", "(I)I"⟩
abbrev cX11_fromOf : ByteArray := prog_13_method_8_code
def yX11_fromOf : MethodName := ⟨RX11, "fromOf", "(I)I"⟩
abbrev cX11_letterOf : ByteArray := prog_13_method_9_code
def yX11_letterOf : MethodName := ⟨RX11, "letterOf", "(I)I"⟩
abbrev cX11_toOf : ByteArray := prog_13_method_10_code
def yX11_toOf : MethodName := ⟨RX11, "toOf", "(I)I"⟩
abbrev cX11_isThere : ByteArray := prog_13_method_11_code
def yX11_isThere : MethodName := ⟨RX11, "isThere", "(III)Z"⟩
abbrev cX11_adds : ByteArray := prog_13_method_12_code
def yX11_adds : MethodName := ⟨RX11, "adds", "(III)V"⟩
abbrev cX11_stays : ByteArray := prog_13_method_13_code
def yX11_stays : MethodName := ⟨RX11, "stays", "(Z)I"⟩
abbrev cX11_edge : ByteArray := prog_13_method_14_code
def yX11_edge : MethodName := ⟨RX11, "edge", "(III)I"⟩
abbrev cX11_drop : ByteArray := prog_13_method_15_code
def yX11_drop : MethodName := ⟨RX11, "drop", "(I)I"⟩
abbrev cX11_anew : ByteArray := prog_13_method_16_code
def yX11_anew : MethodName := ⟨RX11, "anew", "()I"⟩
abbrev cX11_of : ByteArray := prog_13_method_17_code
def yX11_of : MethodName := ⟨RX11, "of", "(II)I"⟩
abbrev cX11_degree : ByteArray := prog_13_method_18_code
def yX11_degree : MethodName := ⟨RX11, "degree", "(II)I"⟩
abbrev cX11_type : ByteArray := prog_13_method_19_code
def yX11_type : MethodName := ⟨RX11, "type", "(I)I"⟩
abbrev cX11_clear : ByteArray := prog_13_method_20_code
def yX11_clear : MethodName := ⟨RX11, "clear", "()I"⟩
abbrev cX11_byteAt : ByteArray := prog_13_method_21_code
def yX11_byteAt : MethodName := ⟨RX11, "byteAt", "(I)I"⟩
abbrev cX11_skips : ByteArray := prog_13_method_22_code
def yX11_skips : MethodName := ⟨RX11, "skips", "()V"⟩
abbrev cX11_signsBy : ByteArray := prog_13_method_23_code
def yX11_signsBy : MethodName := ⟨RX11, "signsBy", "(I)I"⟩
abbrev cX11_part : ByteArray := prog_13_method_24_code
def yX11_part : MethodName := ⟨RX11, "part", "(III)V"⟩
abbrev cX11_follows : ByteArray := prog_13_method_25_code
def yX11_follows : MethodName := ⟨RX11, "follows", "(II)V"⟩
abbrev cX11_joins : ByteArray := prog_13_method_26_code
def yX11_joins : MethodName := ⟨RX11, "joins", "(I)V"⟩
abbrev cX11_does : ByteArray := prog_13_method_27_code
def yX11_does : MethodName := ⟨RX11, "does", "(Z)V"⟩
abbrev cX11_depth : ByteArray := prog_13_method_28_code
def yX11_depth : MethodName := ⟨RX11, "depth", "()I"⟩
abbrev cX11_behind : ByteArray := prog_13_method_29_code
def yX11_behind : MethodName := ⟨RX11, "behind", "(Z)V"⟩
abbrev cX11_readsAll : ByteArray := prog_13_method_30_code
def yX11_readsAll : MethodName := ⟨RX11, "readsAll", "()I"⟩
abbrev cX11_reads : ByteArray := prog_13_method_31_code
def yX11_reads : MethodName := ⟨RX11, "reads", "(I)I"⟩
abbrev cX11_goes : ByteArray := prog_13_method_32_code
def yX11_goes : MethodName := ⟨RX11, "goes", "(III)I"⟩
abbrev cX11_comes : ByteArray := prog_13_method_33_code
def yX11_comes : MethodName := ⟨RX11, "comes", "(III)I"⟩
abbrev cX11_statesOf : ByteArray := prog_13_method_34_code
def yX11_statesOf : MethodName := ⟨RX11, "statesOf", "(I)I"⟩
abbrev cX11_about : ByteArray := prog_13_method_35_code
def yX11_about : MethodName := ⟨RX11, "about", "(II)I"⟩
abbrev cX11_accepts : ByteArray := prog_13_method_36_code
def yX11_accepts : MethodName := ⟨RX11, "accepts", "(III)I"⟩
abbrev cX11_numberOf : ByteArray := prog_13_method_37_code
def yX11_numberOf : MethodName := ⟨RX11, "numberOf", "(I)I"⟩
abbrev cX11_turns : ByteArray := prog_13_method_38_code
def yX11_turns : MethodName := ⟨RX11, "turns", "(IIIIJ)Z"⟩
abbrev cX11_steps : ByteArray := prog_13_method_39_code
def yX11_steps : MethodName := ⟨RX11, "steps", "(IZ)Z"⟩
abbrev cX11_ways : ByteArray := prog_13_method_40_code
def yX11_ways : MethodName := ⟨RX11, "ways", "(IIIIZ)I"⟩
abbrev cX11_words : ByteArray := prog_13_method_41_code
def yX11_words : MethodName := ⟨RX11, "words", "(II)I"⟩
abbrev cX11_beyond : ByteArray := prog_13_method_42_code
def yX11_beyond : MethodName := ⟨RX11, "beyond", "(II)I"⟩
abbrev cX11_spreads : ByteArray := prog_13_method_43_code
def yX11_spreads : MethodName := ⟨RX11, "spreads", "(I)V"⟩
abbrev cX11_farOf : ByteArray := prog_13_method_44_code
def yX11_farOf : MethodName := ⟨RX11, "farOf", "(III)I"⟩
abbrev cX11_endsOf : ByteArray := prog_13_method_45_code
def yX11_endsOf : MethodName := ⟨RX11, "endsOf", "(II)I"⟩
abbrev cX11_amiss : ByteArray := prog_13_method_46_code
def yX11_amiss : MethodName := ⟨RX11, "amiss", "(III)I"⟩
abbrev cX11_answers : ByteArray := prog_13_method_47_code
def yX11_answers : MethodName := ⟨RX11, "answers", "(III)I"⟩
abbrev cX11_ends : ByteArray := prog_13_method_48_code
def yX11_ends : MethodName := ⟨RX11, "ends", "(II)I"⟩
abbrev cX11_pairsOf : ByteArray := prog_13_method_49_code
def yX11_pairsOf : MethodName := ⟨RX11, "pairsOf", "(I)I"⟩
abbrev cX11_pairs : ByteArray := prog_13_method_50_code
def yX11_pairs : MethodName := ⟨RX11, "pairs", "(I)I"⟩
abbrev cX11_far : ByteArray := prog_13_method_51_code
def yX11_far : MethodName := ⟨RX11, "far", "(III)I"⟩
abbrev cX11_count : ByteArray := prog_13_method_52_code
def yX11_count : MethodName := ⟨RX11, "count", "(IIII)I"⟩
abbrev cX11_route : ByteArray := prog_13_method_53_code
def yX11_route : MethodName := ⟨RX11, "route", "(IIIII)I"⟩
abbrev cX11_bridge : ByteArray := prog_13_method_54_code
def yX11_bridge : MethodName := ⟨RX11, "bridge", "(III)I"⟩
abbrev cX11_stand : ByteArray := prog_13_method_55_code
def yX11_stand : MethodName := ⟨RX11, "stand", "(I)I"⟩
abbrev cX11_standingOf : ByteArray := prog_13_method_56_code
def yX11_standingOf : MethodName := ⟨RX11, "standingOf", "(I)I"⟩
abbrev cX11_standing : ByteArray := prog_13_method_57_code
def yX11_standing : MethodName := ⟨RX11, "standing", "(I)I"⟩
abbrev cX11_kept : ByteArray := prog_13_method_58_code
def yX11_kept : MethodName := ⟨RX11, "kept", "(II)I"⟩
abbrev cX11_draw : ByteArray := prog_13_method_59_code
def yX11_draw : MethodName := ⟨RX11, "draw", "(II)I"⟩
abbrev cX11_toldOf : ByteArray := prog_13_method_60_code
def yX11_toldOf : MethodName := ⟨RX11, "toldOf", "(I)I"⟩
abbrev cX11_told : ByteArray := prog_13_method_61_code
def yX11_told : MethodName := ⟨RX11, "told", "(I)I"⟩
abbrev cX11_digest : ByteArray := prog_13_method_62_code
def yX11_digest : MethodName := ⟨RX11, "digest", "()J"⟩
def RJ6 : String := "java/lang/Integer"
def TJ6 : u_T := fun k => match k with
  | _ => ("", "", "", false)
def tyJ6 : Nat → FieldType := fun k => match k with
  | _ => .int
theorem nmJ6 : ∀ a, a < 0 → ∀ b, b < 0 → a ≠ b → (TJ6 a).2.1 ≠ (TJ6 b).2.1 := by decide +kernel
theorem tyJ6_ok : ∀ k, k < 0 → parseFieldDescriptor (TJ6 k).2.2.1 = some (tyJ6 k) := by decide +kernel
abbrev cJ6_bitCount_0f7a4 : ByteArray := prog_14_method_49_code
def yJ6_bitCount_0f7a4 : MethodName := ⟨RJ6, "bitCount", "(I)I"⟩
def RJ9 : String := "java/lang/Math"
def TJ9 : u_T := fun k => match k with
  | _ => ("", "", "", false)
def tyJ9 : Nat → FieldType := fun k => match k with
  | _ => .int
theorem nmJ9 : ∀ a, a < 0 → ∀ b, b < 0 → a ≠ b → (TJ9 a).2.1 ≠ (TJ9 b).2.1 := by decide +kernel
theorem tyJ9_ok : ∀ k, k < 0 → parseFieldDescriptor (TJ9 k).2.2.1 = some (tyJ9 k) := by decide +kernel
abbrev cJ9_max_7cf53 : ByteArray := prog_15_method_65_code
def yJ9_max_7cf53 : MethodName := ⟨RJ9, "max", "(II)I"⟩
abbrev cJ9_min_7cf53 : ByteArray := prog_15_method_69_code
def yJ9_min_7cf53 : MethodName := ⟨RJ9, "min", "(II)I"⟩
def RJ10 : String := "java/lang/System"
def TJ10 : u_T := fun k => match k with
  | _ => ("", "", "", false)
def tyJ10 : Nat → FieldType := fun k => match k with
  | _ => .int
theorem nmJ10 : ∀ a, a < 0 → ∀ b, b < 0 → a ≠ b → (TJ10 a).2.1 ≠ (TJ10 b).2.1 := by decide +kernel
theorem tyJ10_ok : ∀ k, k < 0 → parseFieldDescriptor (TJ10 k).2.2.1 = some (tyJ10 k) := by decide +kernel
def RJ7 : String := "java/util/Arrays"
def TJ7 : u_T := fun k => match k with
  | _ => ("", "", "", false)
def tyJ7 : Nat → FieldType := fun k => match k with
  | _ => .int
theorem nmJ7 : ∀ a, a < 0 → ∀ b, b < 0 → a ≠ b → (TJ7 a).2.1 ≠ (TJ7 b).2.1 := by decide +kernel
theorem tyJ7_ok : ∀ k, k < 0 → parseFieldDescriptor (TJ7 k).2.2.1 = some (tyJ7 k) := by decide +kernel
abbrev cJ7_fill_53178 : ByteArray := prog_17_method_103_code
def yJ7_fill_53178 : MethodName := ⟨RJ7, "fill", "([II)V"⟩
def RL : String := "SpeltRoutesLaw"
abbrev cL_law : ByteArray := code
def yL_law : MethodName := ⟨RL, "law", "([I)Z"⟩
abbrev vwCl : List vw_C := [(RX0, TX0, 1), (RX1, TX1, 4), (RX2, TX2, 5), (RX3, TX3, 3), (RX4, TX4, 9), (RX5, TX5, 3), (RX6, TX6, 4), (RX7, TX7, 5), (RX8, TX8, 4), (RX9, TX9, 4), (RX10, TX10, 16), (RX11, TX11, 33)]
end
section
/-! the program as tables: a row an instruction: (pc, (instruction, the next pc, a, b, the int constant, the long constant)) -/
abbrev En : Type := Instr × Nat × Nat × Nat × Int32 × Int64
/-- a method: its name, its bytes, its locals, what it returns, its room, its rows -/
abbrev MD : Type := MethodName × ByteArray × Nat × Option FieldType × Room × List (Nat × En)
def tbX8_init : List (Nat × En) := [(0, .aload_n 0, 1, 0, 0, 0, 0), (1, .invokespecial 3, 4, 0, 0, 0, 0), (4, .aload_n 0, 5, 0, 0, 0, 0), (5, .sipush 400, 8, 0, 0, 400, 0), (8, .newarray .long, 10, 0, 0, 0, 0), (10, .putfield 9, 13, 8, 0, 0, 0), (13, .aload_n 0, 14, 0, 0, 0, 0), (14, .sipush 1024, 17, 0, 0, 1024, 0), (17, .newarray .int, 19, 0, 0, 0, 0), (19, .putfield 15, 22, 8, 1, 0, 0), (22, .aload_n 0, 23, 0, 0, 0, 0), (23, .iconst 0, 24, 0, 0, 0, 0), (24, .putfield 19, 27, 8, 2, 0, 0), (27, .aload_n 0, 28, 0, 0, 0, 0), (28, .iconst 0, 29, 0, 0, 0, 0), (29, .putfield 23, 32, 8, 3, 0, 0), (32, .return_, 33, 0, 0, 0, 0)]
abbrev mX8_init : MD := (yX8_init, cX8_init, 1, none, { frames := 1, cells := 2, slots := 1424, locals := 20 }, tbX8_init)
def tbX0_init : List (Nat × En) := [(0, .aload_n 0, 1, 0, 0, 0, 0), (1, .invokespecial 3, 4, 0, 0, 0, 0), (4, .aload_n 0, 5, 0, 0, 0, 0), (5, .new 9, 8, 8, 0, 0, 0), (8, .dup, 9, 0, 0, 0, 0), (9, .invokespecial 11, 12, 0, 1, 0, 0), (12, .putfield 12, 15, 0, 0, 0, 0), (15, .return_, 16, 0, 0, 0, 0)]
abbrev mX0_init : MD := (yX0_init, cX0_init, 1, none, { frames := 2, cells := 3, slots := 1428, locals := 40 }, tbX0_init)
def tbJ7_fill_53178 : List (Nat × En) := [(0, .iconst 0, 1, 0, 0, 0, 0), (1, .istore_n 2, 2, 2, 0, 0, 0), (2, .aload_n 0, 3, 0, 0, 0, 0), (3, .arraylength, 4, 0, 0, 0, 0), (4, .istore_n 3, 5, 3, 0, 0, 0), (5, .iload_n 2, 6, 2, 0, 0, 0), (6, .iload_n 3, 7, 3, 0, 0, 0), (7, .if_icmp .ge 13, 10, 20, 0, 0, 0), (10, .aload_n 0, 11, 0, 0, 0, 0), (11, .iload_n 2, 12, 2, 0, 0, 0), (12, .iload_n 1, 13, 1, 0, 0, 0), (13, .iastore, 14, 0, 0, 0, 0), (14, .iinc 2 1, 17, 2, 0, 1, 0), (17, .goto (-12), 5, 0, 0, 0, 0), (20, .return_, 21, 0, 0, 0, 0)]
abbrev mJ7_fill_53178 : MD := (yJ7_fill_53178, cJ7_fill_53178, 4, none, { frames := 0, cells := 0, slots := 0, locals := 0 }, tbJ7_fill_53178)
def tbJ9_min_7cf53 : List (Nat × En) := [(0, .iload_n 0, 1, 0, 0, 0, 0), (1, .iload_n 1, 2, 1, 0, 0, 0), (2, .if_icmp .gt 7, 5, 9, 0, 0, 0), (5, .iload_n 0, 6, 0, 0, 0, 0), (6, .goto 4, 10, 0, 0, 0, 0), (9, .iload_n 1, 10, 1, 0, 0, 0), (10, .ireturn, 11, 0, 0, 0, 0)]
abbrev mJ9_min_7cf53 : MD := (yJ9_min_7cf53, cJ9_min_7cf53, 2, (some .int), { frames := 0, cells := 0, slots := 0, locals := 0 }, tbJ9_min_7cf53)
def tbX8_reset : List (Nat × En) := [(0, .aload_n 0, 1, 0, 0, 0, 0), (1, .getfield 15, 4, 8, 1, 0, 0), (4, .iconst 0, 5, 0, 0, 0, 0), (5, .invokestatic 26, 8, 2, 0, 0, 0), (8, .aload_n 0, 9, 0, 0, 0, 0), (9, .iconst 0, 10, 0, 0, 0, 0), (10, .putfield 19, 13, 8, 2, 0, 0), (13, .aload_n 0, 14, 0, 0, 0, 0), (14, .iload_n 1, 15, 1, 0, 0, 0), (15, .sipush 400, 18, 0, 0, 400, 0), (18, .invokestatic 32, 21, 2, 0, 0, 0), (21, .putfield 23, 24, 8, 3, 0, 0), (24, .return_, 25, 0, 0, 0, 0)]
abbrev mX8_reset : MD := (yX8_reset, cX8_reset, 2, none, { frames := 1, cells := 0, slots := 0, locals := 23 }, tbX8_reset)
def tbX0_pairOf : List (Nat × En) := [(0, .iload_n 0, 1, 0, 0, 0, 0), (1, .i2l, 2, 0, 0, 0, 0), (2, .bipush 32, 4, 0, 0, 32, 0), (4, .lshl, 5, 0, 0, 0, 0), (5, .iload_n 1, 6, 1, 0, 0, 0), (6, .i2l, 7, 0, 0, 0, 0), (7, .lor, 8, 0, 0, 0, 0), (8, .lreturn, 9, 0, 0, 0, 0)]
abbrev mX0_pairOf : MD := (yX0_pairOf, cX0_pairOf, 2, (some .long), { frames := 0, cells := 0, slots := 0, locals := 0 }, tbX0_pairOf)
def tbX8_numberOf : List (Nat × En) := [(0, .lload_n 1, 1, 1, 0, 0, 0), (1, .ldc2_w 38, 4, 0, 0, 0, -7046029254386353131), (4, .lmul, 5, 0, 0, 0, 0), (5, .bipush 54, 7, 0, 0, 54, 0), (7, .lushr, 8, 0, 0, 0, 0), (8, .l2i, 9, 0, 0, 0, 0), (9, .istore_n 3, 10, 3, 0, 0, 0), (10, .iconst 0, 11, 0, 0, 0, 0), (11, .istore 4, 13, 4, 0, 0, 0), (13, .iload 4, 15, 4, 0, 0, 0), (15, .sipush 1024, 18, 0, 0, 1024, 0), (18, .if_icmp .ge 109, 21, 127, 0, 0, 0), (21, .aload_n 0, 22, 0, 0, 0, 0), (22, .getfield 15, 25, 8, 1, 0, 0), (25, .iload_n 3, 26, 3, 0, 0, 0), (26, .iaload, 27, 0, 0, 0, 0), (27, .istore 5, 29, 5, 0, 0, 0), (29, .iload 5, 31, 5, 0, 0, 0), (31, .ifCond .eq 22, 34, 53, 0, 0, 0), (34, .aload_n 0, 35, 0, 0, 0, 0), (35, .getfield 9, 38, 8, 0, 0, 0), (38, .iload 5, 40, 5, 0, 0, 0), (40, .iconst 1, 41, 0, 0, 1, 0), (41, .isub, 42, 0, 0, 0, 0), (42, .laload, 43, 0, 0, 0, 0), (43, .lload_n 1, 44, 1, 0, 0, 0), (44, .lcmp, 45, 0, 0, 0, 0), (45, .ifCond .ne 8, 48, 53, 0, 0, 0), (48, .iload 5, 50, 5, 0, 0, 0), (50, .iconst 1, 51, 0, 0, 1, 0), (51, .isub, 52, 0, 0, 0, 0), (52, .ireturn, 53, 0, 0, 0, 0), (53, .iload 5, 55, 5, 0, 0, 0), (55, .ifCond .ne 16, 58, 71, 0, 0, 0), (58, .aload_n 0, 59, 0, 0, 0, 0), (59, .getfield 19, 62, 8, 2, 0, 0), (62, .aload_n 0, 63, 0, 0, 0, 0), (63, .getfield 23, 66, 8, 3, 0, 0), (66, .if_icmp .lt 5, 69, 71, 0, 0, 0), (69, .iconst (-1), 70, 0, 0, -1, 0), (70, .ireturn, 71, 0, 0, 0, 0), (71, .iload 5, 73, 5, 0, 0, 0), (73, .ifCond .ne 40, 76, 113, 0, 0, 0), (76, .aload_n 0, 77, 0, 0, 0, 0), (77, .getfield 9, 80, 8, 0, 0, 0), (80, .aload_n 0, 81, 0, 0, 0, 0), (81, .getfield 19, 84, 8, 2, 0, 0), (84, .lload_n 1, 85, 1, 0, 0, 0), (85, .lastore, 86, 0, 0, 0, 0), (86, .aload_n 0, 87, 0, 0, 0, 0), (87, .dup, 88, 0, 0, 0, 0), (88, .getfield 19, 91, 8, 2, 0, 0), (91, .iconst 1, 92, 0, 0, 1, 0), (92, .iadd, 93, 0, 0, 0, 0), (93, .putfield 19, 96, 8, 2, 0, 0), (96, .aload_n 0, 97, 0, 0, 0, 0), (97, .getfield 15, 100, 8, 1, 0, 0), (100, .iload_n 3, 101, 3, 0, 0, 0), (101, .aload_n 0, 102, 0, 0, 0, 0), (102, .getfield 19, 105, 8, 2, 0, 0), (105, .iastore, 106, 0, 0, 0, 0), (106, .aload_n 0, 107, 0, 0, 0, 0), (107, .getfield 19, 110, 8, 2, 0, 0), (110, .iconst 1, 111, 0, 0, 1, 0), (111, .isub, 112, 0, 0, 0, 0), (112, .ireturn, 113, 0, 0, 0, 0), (113, .iload_n 3, 114, 3, 0, 0, 0), (114, .iconst 1, 115, 0, 0, 1, 0), (115, .iadd, 116, 0, 0, 0, 0), (116, .sipush 1023, 119, 0, 0, 1023, 0), (119, .iand, 120, 0, 0, 0, 0), (120, .istore_n 3, 121, 3, 0, 0, 0), (121, .iinc 4 1, 124, 4, 0, 1, 0), (124, .goto (-111), 13, 0, 0, 0, 0), (127, .iconst (-1), 128, 0, 0, -1, 0), (128, .ireturn, 129, 0, 0, 0, 0)]
abbrev mX8_numberOf : MD := (yX8_numberOf, cX8_numberOf, 6, (some .int), { frames := 0, cells := 0, slots := 0, locals := 0 }, tbX8_numberOf)
def tbX2_finishes : List (Nat × En) := [(0, .iload_n 1, 1, 1, 0, 0, 0), (1, .aload_n 0, 2, 0, 0, 0, 0), (2, .getfield 18, 5, 2, 2, 0, 0), (5, .iand, 6, 0, 0, 0, 0), (6, .ifCond .eq 7, 9, 13, 0, 0, 0), (9, .iconst 1, 10, 0, 0, 1, 0), (10, .goto 4, 14, 0, 0, 0, 0), (13, .iconst 0, 14, 0, 0, 0, 0), (14, .ireturn, 15, 0, 0, 0, 0)]
abbrev mX2_finishes : MD := (yX2_finishes, cX2_finishes, 2, (some .boolean), { frames := 0, cells := 0, slots := 0, locals := 0 }, tbX2_finishes)
def tbX0_tellsApart : List (Nat × En) := [(0, .iload_n 3, 1, 3, 0, 0, 0), (1, .istore 5, 3, 5, 0, 0, 0), (3, .iload 5, 5, 5, 0, 0, 0), (5, .iload 4, 7, 4, 0, 0, 0), (7, .if_icmp .ge 46, 10, 53, 0, 0, 0), (10, .aload_n 0, 11, 0, 0, 0, 0), (11, .getfield 12, 14, 0, 0, 0, 0), (14, .getfield 45, 17, 8, 0, 0, 0), (17, .iload 5, 19, 5, 0, 0, 0), (19, .laload, 20, 0, 0, 0, 0), (20, .lstore 6, 22, 6, 0, 0, 0), (22, .aload_n 1, 23, 1, 0, 0, 0), (23, .lload 6, 25, 6, 0, 0, 0), (25, .bipush 32, 27, 0, 0, 32, 0), (27, .lushr, 28, 0, 0, 0, 0), (28, .l2i, 29, 0, 0, 0, 0), (29, .invokevirtual 49, 32, 1, 0, 0, 0), (32, .ifCond .eq 15, 35, 47, 0, 0, 0), (35, .aload_n 2, 36, 2, 0, 0, 0), (36, .lload 6, 38, 6, 0, 0, 0), (38, .l2i, 39, 0, 0, 0, 0), (39, .invokevirtual 49, 42, 1, 0, 0, 0), (42, .ifCond .ne 5, 45, 47, 0, 0, 0), (45, .iconst 1, 46, 0, 0, 1, 0), (46, .ireturn, 47, 0, 0, 0, 0), (47, .iinc 5 1, 50, 5, 0, 1, 0), (50, .goto (-47), 3, 0, 0, 0, 0), (53, .iconst 0, 54, 0, 0, 0, 0), (54, .ireturn, 55, 0, 0, 0, 0)]
abbrev mX0_tellsApart : MD := (yX0_tellsApart, cX0_tellsApart, 8, (some .boolean), { frames := 1, cells := 0, slots := 0, locals := 21 }, tbX0_tellsApart)
def tbX2_behind : List (Nat × En) := [(0, .iconst 0, 1, 0, 0, 0, 0), (1, .istore_n 2, 2, 2, 0, 0, 0), (2, .iconst 0, 3, 0, 0, 0, 0), (3, .istore_n 3, 4, 3, 0, 0, 0), (4, .iload_n 3, 5, 3, 0, 0, 0), (5, .aload_n 0, 6, 0, 0, 0, 0), (6, .getfield 22, 9, 2, 3, 0, 0), (9, .if_icmp .gt 26, 12, 35, 0, 0, 0), (12, .iload_n 1, 13, 1, 0, 0, 0), (13, .iload_n 3, 14, 3, 0, 0, 0), (14, .ishr, 15, 0, 0, 0, 0), (15, .iconst 1, 16, 0, 0, 1, 0), (16, .iand, 17, 0, 0, 0, 0), (17, .ifCond .eq 12, 20, 29, 0, 0, 0), (20, .iload_n 2, 21, 2, 0, 0, 0), (21, .aload_n 0, 22, 0, 0, 0, 0), (22, .getfield 9, 25, 2, 0, 0, 0), (25, .iload_n 3, 26, 3, 0, 0, 0), (26, .iaload, 27, 0, 0, 0, 0), (27, .ior, 28, 0, 0, 0, 0), (28, .istore_n 2, 29, 2, 0, 0, 0), (29, .iinc 3 1, 32, 3, 0, 1, 0), (32, .goto (-28), 4, 0, 0, 0, 0), (35, .iload_n 2, 36, 2, 0, 0, 0), (36, .ireturn, 37, 0, 0, 0, 0)]
abbrev mX2_behind : MD := (yX2_behind, cX2_behind, 4, (some .int), { frames := 0, cells := 0, slots := 0, locals := 0 }, tbX2_behind)
def tbX0_widens : List (Nat × En) := [(0, .iload_n 3, 1, 3, 0, 0, 0), (1, .istore 5, 3, 5, 0, 0, 0), (3, .iload 5, 5, 5, 0, 0, 0), (5, .iload 4, 7, 4, 0, 0, 0), (7, .if_icmp .ge 98, 10, 105, 0, 0, 0), (10, .aload_n 0, 11, 0, 0, 0, 0), (11, .getfield 12, 14, 0, 0, 0, 0), (14, .getfield 45, 17, 8, 0, 0, 0), (17, .iload 5, 19, 5, 0, 0, 0), (19, .laload, 20, 0, 0, 0, 0), (20, .lstore 6, 22, 6, 0, 0, 0), (22, .aload_n 1, 23, 1, 0, 0, 0), (23, .lload 6, 25, 6, 0, 0, 0), (25, .bipush 32, 27, 0, 0, 32, 0), (27, .lushr, 28, 0, 0, 0, 0), (28, .l2i, 29, 0, 0, 0, 0), (29, .invokevirtual 55, 32, 1, 0, 0, 0), (32, .istore 8, 34, 8, 0, 0, 0), (34, .aload_n 2, 35, 2, 0, 0, 0), (35, .lload 6, 37, 6, 0, 0, 0), (37, .l2i, 38, 0, 0, 0, 0), (38, .invokevirtual 55, 41, 1, 0, 0, 0), (41, .istore 9, 43, 9, 0, 0, 0), (43, .iconst 0, 44, 0, 0, 0, 0), (44, .istore 10, 46, 10, 0, 0, 0), (46, .iload 10, 48, 10, 0, 0, 0), (48, .bipush 8, 50, 0, 0, 8, 0), (50, .if_icmp .ge 49, 53, 99, 0, 0, 0), (53, .iload 8, 55, 8, 0, 0, 0), (55, .aload_n 1, 56, 1, 0, 0, 0), (56, .getfield 59, 59, 2, 1, 0, 0), (59, .iload 10, 61, 10, 0, 0, 0), (61, .iaload, 62, 0, 0, 0, 0), (62, .iand, 63, 0, 0, 0, 0), (63, .iload 9, 65, 9, 0, 0, 0), (65, .aload_n 2, 66, 2, 0, 0, 0), (66, .getfield 59, 69, 2, 1, 0, 0), (69, .iload 10, 71, 10, 0, 0, 0), (71, .iaload, 72, 0, 0, 0, 0), (72, .iand, 73, 0, 0, 0, 0), (73, .invokestatic 30, 76, 2, 0, 0, 0), (76, .lstore 11, 78, 11, 0, 0, 0), (78, .aload_n 0, 79, 0, 0, 0, 0), (79, .getfield 12, 82, 0, 0, 0, 0), (82, .lload 11, 84, 11, 0, 0, 0), (84, .invokevirtual 34, 87, 1, 0, 0, 0), (87, .iconst (-1), 88, 0, 0, -1, 0), (88, .if_icmp .ne 5, 91, 93, 0, 0, 0), (91, .iconst 0, 92, 0, 0, 0, 0), (92, .ireturn, 93, 0, 0, 0, 0), (93, .iinc 10 1, 96, 10, 0, 1, 0), (96, .goto (-50), 46, 0, 0, 0, 0), (99, .iinc 5 1, 102, 5, 0, 1, 0), (102, .goto (-99), 3, 0, 0, 0, 0), (105, .iconst 1, 106, 0, 0, 1, 0), (106, .ireturn, 107, 0, 0, 0, 0)]
abbrev mX0_widens : MD := (yX0_widens, cX0_widens, 13, (some .boolean), { frames := 1, cells := 0, slots := 0, locals := 25 }, tbX0_widens)
def tbX0_shortestBeyond : List (Nat × En) := [(0, .aload_n 0, 1, 0, 0, 0, 0), (1, .getfield 12, 4, 0, 0, 0, 0), (4, .iload_n 3, 5, 3, 0, 0, 0), (5, .invokevirtual 26, 8, 1, 0, 0, 0), (8, .aload_n 0, 9, 0, 0, 0, 0), (9, .getfield 12, 12, 0, 0, 0, 0), (12, .iconst 1, 13, 0, 0, 1, 0), (13, .iconst 1, 14, 0, 0, 1, 0), (14, .invokestatic 30, 17, 2, 0, 0, 0), (17, .invokevirtual 34, 20, 1, 0, 0, 0), (20, .pop, 21, 0, 0, 0, 0), (21, .iconst 0, 22, 0, 0, 0, 0), (22, .istore 4, 24, 4, 0, 0, 0), (24, .iconst 0, 25, 0, 0, 0, 0), (25, .istore 5, 27, 5, 0, 0, 0), (27, .iload 5, 29, 5, 0, 0, 0), (29, .sipush 400, 32, 0, 0, 400, 0), (32, .if_icmp .gt 68, 35, 100, 0, 0, 0), (35, .aload_n 0, 36, 0, 0, 0, 0), (36, .getfield 12, 39, 0, 0, 0, 0), (39, .getfield 22, 42, 8, 2, 0, 0), (42, .istore 6, 44, 6, 0, 0, 0), (44, .aload_n 0, 45, 0, 0, 0, 0), (45, .aload_n 1, 46, 1, 0, 0, 0), (46, .aload_n 2, 47, 2, 0, 0, 0), (47, .iload 4, 49, 4, 0, 0, 0), (49, .iload 6, 51, 6, 0, 0, 0), (51, .invokevirtual 38, 54, 4, 0, 0, 0), (54, .ifCond .eq 6, 57, 60, 0, 0, 0), (57, .iload 5, 59, 5, 0, 0, 0), (59, .ireturn, 60, 0, 0, 0, 0), (60, .aload_n 0, 61, 0, 0, 0, 0), (61, .aload_n 1, 62, 1, 0, 0, 0), (62, .aload_n 2, 63, 2, 0, 0, 0), (63, .iload 4, 65, 4, 0, 0, 0), (65, .iload 6, 67, 6, 0, 0, 0), (67, .invokevirtual 42, 70, 4, 0, 0, 0), (70, .ifCond .ne 6, 73, 76, 0, 0, 0), (73, .bipush (-4), 75, 0, 0, -4, 0), (75, .ireturn, 76, 0, 0, 0, 0), (76, .aload_n 0, 77, 0, 0, 0, 0), (77, .getfield 12, 80, 0, 0, 0, 0), (80, .getfield 22, 83, 8, 2, 0, 0), (83, .iload 6, 85, 6, 0, 0, 0), (85, .if_icmp .ne 5, 88, 90, 0, 0, 0), (88, .iconst (-1), 89, 0, 0, -1, 0), (89, .ireturn, 90, 0, 0, 0, 0), (90, .iload 6, 92, 6, 0, 0, 0), (92, .istore 4, 94, 4, 0, 0, 0), (94, .iinc 5 1, 97, 5, 0, 1, 0), (97, .goto (-70), 27, 0, 0, 0, 0), (100, .iconst (-1), 101, 0, 0, -1, 0), (101, .ireturn, 102, 0, 0, 0, 0)]
abbrev mX0_shortestBeyond : MD := (yX0_shortestBeyond, cX0_shortestBeyond, 7, (some .int), { frames := 2, cells := 0, slots := 0, locals := 57 }, tbX0_shortestBeyond)
def tbX0_statesOf : List (Nat × En) := [(0, .aload_n 0, 1, 0, 0, 0, 0), (1, .aload_n 1, 2, 1, 0, 0, 0), (2, .aload_n 1, 3, 1, 0, 0, 0), (3, .sipush 200, 6, 0, 0, 200, 0), (6, .invokevirtual 18, 9, 3, 0, 0, 0), (9, .istore_n 2, 10, 2, 0, 0, 0), (10, .iload_n 2, 11, 2, 0, 0, 0), (11, .bipush (-4), 13, 0, 0, -4, 0), (13, .if_icmp .ne 8, 16, 21, 0, 0, 0), (16, .bipush (-4), 18, 0, 0, -4, 0), (18, .goto 10, 28, 0, 0, 0, 0), (21, .aload_n 0, 22, 0, 0, 0, 0), (22, .getfield 12, 25, 0, 0, 0, 0), (25, .getfield 22, 28, 8, 2, 0, 0), (28, .ireturn, 29, 0, 0, 0, 0)]
abbrev mX0_statesOf : MD := (yX0_statesOf, cX0_statesOf, 3, (some .int), { frames := 3, cells := 0, slots := 0, locals := 83 }, tbX0_statesOf)
def tbX1_init : List (Nat × En) := [(0, .aload_n 0, 1, 0, 0, 0, 0), (1, .invokespecial 3, 4, 0, 0, 0, 0), (4, .aload_n 0, 5, 0, 0, 0, 0), (5, .bipush 30, 7, 0, 0, 30, 0), (7, .newarray .int, 9, 0, 0, 0, 0), (9, .putfield 9, 12, 1, 0, 0, 0), (12, .aload_n 0, 13, 0, 0, 0, 0), (13, .bipush 30, 15, 0, 0, 30, 0), (15, .newarray .int, 17, 0, 0, 0, 0), (17, .putfield 15, 20, 1, 1, 0, 0), (20, .aload_n 0, 21, 0, 0, 0, 0), (21, .bipush 30, 23, 0, 0, 30, 0), (23, .newarray .int, 25, 0, 0, 0, 0), (25, .putfield 18, 28, 1, 2, 0, 0), (28, .aload_n 0, 29, 0, 0, 0, 0), (29, .iconst 0, 30, 0, 0, 0, 0), (30, .putfield 21, 33, 1, 3, 0, 0), (33, .return_, 34, 0, 0, 0, 0)]
abbrev mX1_init : MD := (yX1_init, cX1_init, 1, none, { frames := 1, cells := 3, slots := 90, locals := 20 }, tbX1_init)
def tbX1_isEdge : List (Nat × En) := [(0, .iload_n 1, 1, 1, 0, 0, 0), (1, .ifCond .lt 15, 4, 16, 0, 0, 0), (4, .iload_n 1, 5, 1, 0, 0, 0), (5, .aload_n 0, 6, 0, 0, 0, 0), (6, .getfield 21, 9, 1, 3, 0, 0), (9, .if_icmp .ge 7, 12, 16, 0, 0, 0), (12, .iconst 1, 13, 0, 0, 1, 0), (13, .goto 4, 17, 0, 0, 0, 0), (16, .iconst 0, 17, 0, 0, 0, 0), (17, .ireturn, 18, 0, 0, 0, 0)]
abbrev mX1_isEdge : MD := (yX1_isEdge, cX1_isEdge, 2, (some .boolean), { frames := 0, cells := 0, slots := 0, locals := 0 }, tbX1_isEdge)
def tbX1_has : List (Nat × En) := [(0, .iconst 0, 1, 0, 0, 0, 0), (1, .istore 4, 3, 4, 0, 0, 0), (3, .iload 4, 5, 4, 0, 0, 0), (5, .aload_n 0, 6, 0, 0, 0, 0), (6, .getfield 21, 9, 1, 3, 0, 0), (9, .if_icmp .ge 44, 12, 53, 0, 0, 0), (12, .aload_n 0, 13, 0, 0, 0, 0), (13, .getfield 9, 16, 1, 0, 0, 0), (16, .iload 4, 18, 4, 0, 0, 0), (18, .iaload, 19, 0, 0, 0, 0), (19, .iload_n 1, 20, 1, 0, 0, 0), (20, .if_icmp .ne 27, 23, 47, 0, 0, 0), (23, .aload_n 0, 24, 0, 0, 0, 0), (24, .getfield 15, 27, 1, 1, 0, 0), (27, .iload 4, 29, 4, 0, 0, 0), (29, .iaload, 30, 0, 0, 0, 0), (30, .iload_n 2, 31, 2, 0, 0, 0), (31, .if_icmp .ne 16, 34, 47, 0, 0, 0), (34, .aload_n 0, 35, 0, 0, 0, 0), (35, .getfield 18, 38, 1, 2, 0, 0), (38, .iload 4, 40, 4, 0, 0, 0), (40, .iaload, 41, 0, 0, 0, 0), (41, .iload_n 3, 42, 3, 0, 0, 0), (42, .if_icmp .ne 5, 45, 47, 0, 0, 0), (45, .iconst 1, 46, 0, 0, 1, 0), (46, .ireturn, 47, 0, 0, 0, 0), (47, .iinc 4 1, 50, 4, 0, 1, 0), (50, .goto (-47), 3, 0, 0, 0, 0), (53, .iconst 0, 54, 0, 0, 0, 0), (54, .ireturn, 55, 0, 0, 0, 0)]
abbrev mX1_has : MD := (yX1_has, cX1_has, 5, (some .boolean), { frames := 0, cells := 0, slots := 0, locals := 0 }, tbX1_has)
def tbX1_put : List (Nat × En) := [(0, .aload_n 0, 1, 0, 0, 0, 0), (1, .getfield 21, 4, 1, 3, 0, 0), (4, .bipush 30, 6, 0, 0, 30, 0), (6, .if_icmp .lt 4, 9, 10, 0, 0, 0), (9, .return_, 10, 0, 0, 0, 0), (10, .aload_n 0, 11, 0, 0, 0, 0), (11, .getfield 9, 14, 1, 0, 0, 0), (14, .aload_n 0, 15, 0, 0, 0, 0), (15, .getfield 21, 18, 1, 3, 0, 0), (18, .iload_n 1, 19, 1, 0, 0, 0), (19, .iastore, 20, 0, 0, 0, 0), (20, .aload_n 0, 21, 0, 0, 0, 0), (21, .getfield 15, 24, 1, 1, 0, 0), (24, .aload_n 0, 25, 0, 0, 0, 0), (25, .getfield 21, 28, 1, 3, 0, 0), (28, .iload_n 2, 29, 2, 0, 0, 0), (29, .iastore, 30, 0, 0, 0, 0), (30, .aload_n 0, 31, 0, 0, 0, 0), (31, .getfield 18, 34, 1, 2, 0, 0), (34, .aload_n 0, 35, 0, 0, 0, 0), (35, .getfield 21, 38, 1, 3, 0, 0), (38, .iload_n 3, 39, 3, 0, 0, 0), (39, .iastore, 40, 0, 0, 0, 0), (40, .aload_n 0, 41, 0, 0, 0, 0), (41, .dup, 42, 0, 0, 0, 0), (42, .getfield 21, 45, 1, 3, 0, 0), (45, .iconst 1, 46, 0, 0, 1, 0), (46, .iadd, 47, 0, 0, 0, 0), (47, .putfield 21, 50, 1, 3, 0, 0), (50, .return_, 51, 0, 0, 0, 0)]
abbrev mX1_put : MD := (yX1_put, cX1_put, 4, none, { frames := 0, cells := 0, slots := 0, locals := 0 }, tbX1_put)
def tbX1_remove : List (Nat × En) := [(0, .iload_n 1, 1, 1, 0, 0, 0), (1, .iconst 1, 2, 0, 0, 1, 0), (2, .iadd, 3, 0, 0, 0, 0), (3, .istore_n 2, 4, 2, 0, 0, 0), (4, .iload_n 2, 5, 2, 0, 0, 0), (5, .aload_n 0, 6, 0, 0, 0, 0), (6, .getfield 21, 9, 1, 3, 0, 0), (9, .if_icmp .ge 51, 12, 60, 0, 0, 0), (12, .aload_n 0, 13, 0, 0, 0, 0), (13, .getfield 9, 16, 1, 0, 0, 0), (16, .iload_n 2, 17, 2, 0, 0, 0), (17, .iconst 1, 18, 0, 0, 1, 0), (18, .isub, 19, 0, 0, 0, 0), (19, .aload_n 0, 20, 0, 0, 0, 0), (20, .getfield 9, 23, 1, 0, 0, 0), (23, .iload_n 2, 24, 2, 0, 0, 0), (24, .iaload, 25, 0, 0, 0, 0), (25, .iastore, 26, 0, 0, 0, 0), (26, .aload_n 0, 27, 0, 0, 0, 0), (27, .getfield 15, 30, 1, 1, 0, 0), (30, .iload_n 2, 31, 2, 0, 0, 0), (31, .iconst 1, 32, 0, 0, 1, 0), (32, .isub, 33, 0, 0, 0, 0), (33, .aload_n 0, 34, 0, 0, 0, 0), (34, .getfield 15, 37, 1, 1, 0, 0), (37, .iload_n 2, 38, 2, 0, 0, 0), (38, .iaload, 39, 0, 0, 0, 0), (39, .iastore, 40, 0, 0, 0, 0), (40, .aload_n 0, 41, 0, 0, 0, 0), (41, .getfield 18, 44, 1, 2, 0, 0), (44, .iload_n 2, 45, 2, 0, 0, 0), (45, .iconst 1, 46, 0, 0, 1, 0), (46, .isub, 47, 0, 0, 0, 0), (47, .aload_n 0, 48, 0, 0, 0, 0), (48, .getfield 18, 51, 1, 2, 0, 0), (51, .iload_n 2, 52, 2, 0, 0, 0), (52, .iaload, 53, 0, 0, 0, 0), (53, .iastore, 54, 0, 0, 0, 0), (54, .iinc 2 1, 57, 2, 0, 1, 0), (57, .goto (-53), 4, 0, 0, 0, 0), (60, .aload_n 0, 61, 0, 0, 0, 0), (61, .dup, 62, 0, 0, 0, 0), (62, .getfield 21, 65, 1, 3, 0, 0), (65, .iconst 1, 66, 0, 0, 1, 0), (66, .isub, 67, 0, 0, 0, 0), (67, .putfield 21, 70, 1, 3, 0, 0), (70, .return_, 71, 0, 0, 0, 0)]
abbrev mX1_remove : MD := (yX1_remove, cX1_remove, 3, none, { frames := 0, cells := 0, slots := 0, locals := 0 }, tbX1_remove)
def tbX7_put : List (Nat × En) := [(0, .aload_n 0, 1, 0, 0, 0, 0), (1, .getfield 24, 4, 7, 4, 0, 0), (4, .bipush 60, 6, 0, 0, 60, 0), (6, .if_icmp .lt 4, 9, 10, 0, 0, 0), (9, .return_, 10, 0, 0, 0, 0), (10, .aload_n 0, 11, 0, 0, 0, 0), (11, .getfield 9, 14, 7, 0, 0, 0), (14, .aload_n 0, 15, 0, 0, 0, 0), (15, .getfield 24, 18, 7, 4, 0, 0), (18, .iload_n 1, 19, 1, 0, 0, 0), (19, .iastore, 20, 0, 0, 0, 0), (20, .aload_n 0, 21, 0, 0, 0, 0), (21, .getfield 15, 24, 7, 1, 0, 0), (24, .aload_n 0, 25, 0, 0, 0, 0), (25, .getfield 24, 28, 7, 4, 0, 0), (28, .iload_n 2, 29, 2, 0, 0, 0), (29, .iastore, 30, 0, 0, 0, 0), (30, .aload_n 0, 31, 0, 0, 0, 0), (31, .getfield 18, 34, 7, 2, 0, 0), (34, .aload_n 0, 35, 0, 0, 0, 0), (35, .getfield 24, 38, 7, 4, 0, 0), (38, .iload_n 3, 39, 3, 0, 0, 0), (39, .iastore, 40, 0, 0, 0, 0), (40, .aload_n 0, 41, 0, 0, 0, 0), (41, .getfield 21, 44, 7, 3, 0, 0), (44, .aload_n 0, 45, 0, 0, 0, 0), (45, .getfield 24, 48, 7, 4, 0, 0), (48, .iload 4, 50, 4, 0, 0, 0), (50, .iastore, 51, 0, 0, 0, 0), (51, .aload_n 0, 52, 0, 0, 0, 0), (52, .dup, 53, 0, 0, 0, 0), (53, .getfield 24, 56, 7, 4, 0, 0), (56, .iconst 1, 57, 0, 0, 1, 0), (57, .iadd, 58, 0, 0, 0, 0), (58, .putfield 24, 61, 7, 4, 0, 0), (61, .return_, 62, 0, 0, 0, 0)]
abbrev mX7_put : MD := (yX7_put, cX7_put, 5, none, { frames := 0, cells := 0, slots := 0, locals := 0 }, tbX7_put)
def tbX1_spell : List (Nat × En) := [(0, .aload_n 1, 1, 1, 0, 0, 0), (1, .iconst 0, 2, 0, 0, 0, 0), (2, .putfield 25, 5, 7, 4, 0, 0), (5, .iconst 0, 6, 0, 0, 0, 0), (6, .istore_n 3, 7, 3, 0, 0, 0), (7, .iload_n 3, 8, 3, 0, 0, 0), (8, .aload_n 0, 9, 0, 0, 0, 0), (9, .getfield 21, 12, 1, 3, 0, 0), (12, .if_icmp .ge 37, 15, 49, 0, 0, 0), (15, .iload_n 3, 16, 3, 0, 0, 0), (16, .iload_n 2, 17, 2, 0, 0, 0), (17, .if_icmp .eq 26, 20, 43, 0, 0, 0), (20, .aload_n 1, 21, 1, 0, 0, 0), (21, .aload_n 0, 22, 0, 0, 0, 0), (22, .getfield 9, 25, 1, 0, 0, 0), (25, .iload_n 3, 26, 3, 0, 0, 0), (26, .iaload, 27, 0, 0, 0, 0), (27, .aload_n 0, 28, 0, 0, 0, 0), (28, .getfield 15, 31, 1, 1, 0, 0), (31, .iload_n 3, 32, 3, 0, 0, 0), (32, .iaload, 33, 0, 0, 0, 0), (33, .aload_n 0, 34, 0, 0, 0, 0), (34, .getfield 18, 37, 1, 2, 0, 0), (37, .iload_n 3, 38, 3, 0, 0, 0), (38, .iaload, 39, 0, 0, 0, 0), (39, .iload_n 3, 40, 3, 0, 0, 0), (40, .invokevirtual 28, 43, 4, 0, 0, 0), (43, .iinc 3 1, 46, 3, 0, 1, 0), (46, .goto (-39), 7, 0, 0, 0, 0), (49, .iconst 0, 50, 0, 0, 0, 0), (50, .istore_n 3, 51, 3, 0, 0, 0), (51, .iload_n 3, 52, 3, 0, 0, 0), (52, .aload_n 0, 53, 0, 0, 0, 0), (53, .getfield 21, 56, 1, 3, 0, 0), (56, .if_icmp .ge 39, 59, 95, 0, 0, 0), (59, .iload_n 3, 60, 3, 0, 0, 0), (60, .iload_n 2, 61, 2, 0, 0, 0), (61, .if_icmp .eq 28, 64, 89, 0, 0, 0), (64, .aload_n 1, 65, 1, 0, 0, 0), (65, .aload_n 0, 66, 0, 0, 0, 0), (66, .getfield 18, 69, 1, 2, 0, 0), (69, .iload_n 3, 70, 3, 0, 0, 0), (70, .iaload, 71, 0, 0, 0, 0), (71, .aload_n 0, 72, 0, 0, 0, 0), (72, .getfield 15, 75, 1, 1, 0, 0), (75, .iload_n 3, 76, 3, 0, 0, 0), (76, .iaload, 77, 0, 0, 0, 0), (77, .iconst 4, 78, 0, 0, 4, 0), (78, .iadd, 79, 0, 0, 0, 0), (79, .aload_n 0, 80, 0, 0, 0, 0), (80, .getfield 9, 83, 1, 0, 0, 0), (83, .iload_n 3, 84, 3, 0, 0, 0), (84, .iaload, 85, 0, 0, 0, 0), (85, .iload_n 3, 86, 3, 0, 0, 0), (86, .invokevirtual 28, 89, 4, 0, 0, 0), (89, .iinc 3 1, 92, 3, 0, 1, 0), (92, .goto (-41), 51, 0, 0, 0, 0), (95, .return_, 96, 0, 0, 0, 0)]
abbrev mX1_spell : MD := (yX1_spell, cX1_spell, 4, none, { frames := 1, cells := 0, slots := 0, locals := 24 }, tbX1_spell)
def tbX2_init : List (Nat × En) := [(0, .aload_n 0, 1, 0, 0, 0, 0), (1, .invokespecial 3, 4, 0, 0, 0, 0), (4, .aload_n 0, 5, 0, 0, 0, 0), (5, .bipush 25, 7, 0, 0, 25, 0), (7, .newarray .int, 9, 0, 0, 0, 0), (9, .putfield 9, 12, 2, 0, 0, 0), (12, .aload_n 0, 13, 0, 0, 0, 0), (13, .bipush 8, 15, 0, 0, 8, 0), (15, .newarray .int, 17, 0, 0, 0, 0), (17, .putfield 15, 20, 2, 1, 0, 0), (20, .aload_n 0, 21, 0, 0, 0, 0), (21, .iconst 0, 22, 0, 0, 0, 0), (22, .putfield 18, 25, 2, 2, 0, 0), (25, .aload_n 0, 26, 0, 0, 0, 0), (26, .iconst 0, 27, 0, 0, 0, 0), (27, .putfield 22, 30, 2, 3, 0, 0), (30, .aload_n 0, 31, 0, 0, 0, 0), (31, .iconst 0, 32, 0, 0, 0, 0), (32, .putfield 25, 35, 2, 4, 0, 0), (35, .return_, 36, 0, 0, 0, 0)]
abbrev mX2_init : MD := (yX2_init, cX2_init, 1, none, { frames := 1, cells := 2, slots := 33, locals := 20 }, tbX2_init)
def tbX2_wipe : List (Nat × En) := [(0, .aload_n 0, 1, 0, 0, 0, 0), (1, .getfield 9, 4, 2, 0, 0, 0), (4, .iconst 0, 5, 0, 0, 0, 0), (5, .invokestatic 29, 8, 2, 0, 0, 0), (8, .aload_n 0, 9, 0, 0, 0, 0), (9, .getfield 15, 12, 2, 1, 0, 0), (12, .iconst 0, 13, 0, 0, 0, 0), (13, .invokestatic 29, 16, 2, 0, 0, 0), (16, .aload_n 0, 17, 0, 0, 0, 0), (17, .iconst 0, 18, 0, 0, 0, 0), (18, .putfield 18, 21, 2, 2, 0, 0), (21, .aload_n 0, 22, 0, 0, 0, 0), (22, .iconst 0, 23, 0, 0, 0, 0), (23, .putfield 22, 26, 2, 3, 0, 0), (26, .aload_n 0, 27, 0, 0, 0, 0), (27, .iconst 0, 28, 0, 0, 0, 0), (28, .putfield 25, 31, 2, 4, 0, 0), (31, .return_, 32, 0, 0, 0, 0)]
abbrev mX2_wipe : MD := (yX2_wipe, cX2_wipe, 1, none, { frames := 1, cells := 0, slots := 0, locals := 23 }, tbX2_wipe)
def tbX2_become : List (Nat × En) := [(0, .aload_n 1, 1, 1, 0, 0, 0), (1, .getfield 9, 4, 2, 0, 0, 0), (4, .iconst 0, 5, 0, 0, 0, 0), (5, .aload_n 0, 6, 0, 0, 0, 0), (6, .getfield 9, 9, 2, 0, 0, 0), (9, .iconst 0, 10, 0, 0, 0, 0), (10, .bipush 25, 12, 0, 0, 25, 0), (12, .invokestatic 35, 15, 5, 0, 0, 0), (15, .aload_n 1, 16, 1, 0, 0, 0), (16, .getfield 15, 19, 2, 1, 0, 0), (19, .iconst 0, 20, 0, 0, 0, 0), (20, .aload_n 0, 21, 0, 0, 0, 0), (21, .getfield 15, 24, 2, 1, 0, 0), (24, .iconst 0, 25, 0, 0, 0, 0), (25, .bipush 8, 27, 0, 0, 8, 0), (27, .invokestatic 35, 30, 5, 0, 0, 0), (30, .aload_n 0, 31, 0, 0, 0, 0), (31, .aload_n 1, 32, 1, 0, 0, 0), (32, .getfield 18, 35, 2, 2, 0, 0), (35, .putfield 18, 38, 2, 2, 0, 0), (38, .aload_n 0, 39, 0, 0, 0, 0), (39, .aload_n 1, 40, 1, 0, 0, 0), (40, .getfield 22, 43, 2, 3, 0, 0), (43, .putfield 22, 46, 2, 3, 0, 0), (46, .aload_n 0, 47, 0, 0, 0, 0), (47, .iconst 1, 48, 0, 0, 1, 0), (48, .putfield 25, 51, 2, 4, 0, 0), (51, .return_, 52, 0, 0, 0, 0)]
abbrev mX2_become : MD := (yX2_become, cX2_become, 2, none, { frames := 1, cells := 0, slots := 0, locals := 40 }, tbX2_become)
def tbX2_newPlace : List (Nat × En) := [(0, .aload_n 0, 1, 0, 0, 0, 0), (1, .getfield 22, 4, 2, 3, 0, 0), (4, .bipush 24, 6, 0, 0, 24, 0), (6, .if_icmp .lt 5, 9, 11, 0, 0, 0), (9, .iconst 0, 10, 0, 0, 0, 0), (10, .ireturn, 11, 0, 0, 0, 0), (11, .aload_n 0, 12, 0, 0, 0, 0), (12, .dup, 13, 0, 0, 0, 0), (13, .getfield 22, 16, 2, 3, 0, 0), (16, .iconst 1, 17, 0, 0, 1, 0), (17, .iadd, 18, 0, 0, 0, 0), (18, .putfield 22, 21, 2, 3, 0, 0), (21, .iconst 1, 22, 0, 0, 1, 0), (22, .aload_n 0, 23, 0, 0, 0, 0), (23, .getfield 22, 26, 2, 3, 0, 0), (26, .ishl, 27, 0, 0, 0, 0), (27, .istore_n 2, 28, 2, 0, 0, 0), (28, .iconst 0, 29, 0, 0, 0, 0), (29, .istore_n 3, 30, 3, 0, 0, 0), (30, .iload_n 3, 31, 3, 0, 0, 0), (31, .bipush 8, 33, 0, 0, 8, 0), (33, .if_icmp .ge 27, 36, 60, 0, 0, 0), (36, .iload_n 1, 37, 1, 0, 0, 0), (37, .iload_n 3, 38, 3, 0, 0, 0), (38, .ishr, 39, 0, 0, 0, 0), (39, .iconst 1, 40, 0, 0, 1, 0), (40, .iand, 41, 0, 0, 0, 0), (41, .ifCond .eq 13, 44, 54, 0, 0, 0), (44, .aload_n 0, 45, 0, 0, 0, 0), (45, .getfield 15, 48, 2, 1, 0, 0), (48, .iload_n 3, 49, 3, 0, 0, 0), (49, .dup2, 50, 0, 0, 0, 0), (50, .iaload, 51, 0, 0, 0, 0), (51, .iload_n 2, 52, 2, 0, 0, 0), (52, .ior, 53, 0, 0, 0, 0), (53, .iastore, 54, 0, 0, 0, 0), (54, .iinc 3 1, 57, 3, 0, 1, 0), (57, .goto (-27), 30, 0, 0, 0, 0), (60, .iload_n 2, 61, 2, 0, 0, 0), (61, .ireturn, 62, 0, 0, 0, 0)]
abbrev mX2_newPlace : MD := (yX2_newPlace, cX2_newPlace, 4, (some .int), { frames := 0, cells := 0, slots := 0, locals := 0 }, tbX2_newPlace)
def tbX2_link : List (Nat × En) := [(0, .iconst 1, 1, 0, 0, 1, 0), (1, .istore_n 3, 2, 3, 0, 0, 0), (2, .iload_n 3, 3, 3, 0, 0, 0), (3, .aload_n 0, 4, 0, 0, 0, 0), (4, .getfield 22, 7, 2, 3, 0, 0), (7, .if_icmp .gt 30, 10, 37, 0, 0, 0), (10, .iload_n 1, 11, 1, 0, 0, 0), (11, .iload_n 3, 12, 3, 0, 0, 0), (12, .ishr, 13, 0, 0, 0, 0), (13, .iconst 1, 14, 0, 0, 1, 0), (14, .iand, 15, 0, 0, 0, 0), (15, .ifCond .eq 16, 18, 31, 0, 0, 0), (18, .aload_n 0, 19, 0, 0, 0, 0), (19, .getfield 9, 22, 2, 0, 0, 0), (22, .iload_n 3, 23, 3, 0, 0, 0), (23, .dup2, 24, 0, 0, 0, 0), (24, .iaload, 25, 0, 0, 0, 0), (25, .iload_n 2, 26, 2, 0, 0, 0), (26, .bipush (-2), 28, 0, 0, -2, 0), (28, .iand, 29, 0, 0, 0, 0), (29, .ior, 30, 0, 0, 0, 0), (30, .iastore, 31, 0, 0, 0, 0), (31, .iinc 3 1, 34, 3, 0, 1, 0), (34, .goto (-32), 2, 0, 0, 0, 0), (37, .return_, 38, 0, 0, 0, 0)]
abbrev mX2_link : MD := (yX2_link, cX2_link, 4, none, { frames := 0, cells := 0, slots := 0, locals := 0 }, tbX2_link)
def tbX2_aheadOf : List (Nat × En) := [(0, .iconst 0, 1, 0, 0, 0, 0), (1, .istore_n 2, 2, 2, 0, 0, 0), (2, .iconst 0, 3, 0, 0, 0, 0), (3, .istore_n 3, 4, 3, 0, 0, 0), (4, .iload_n 3, 5, 3, 0, 0, 0), (5, .aload_n 0, 6, 0, 0, 0, 0), (6, .getfield 22, 9, 2, 3, 0, 0), (9, .if_icmp .gt 26, 12, 35, 0, 0, 0), (12, .aload_n 0, 13, 0, 0, 0, 0), (13, .getfield 9, 16, 2, 0, 0, 0), (16, .iload_n 3, 17, 3, 0, 0, 0), (17, .iaload, 18, 0, 0, 0, 0), (18, .iload_n 1, 19, 1, 0, 0, 0), (19, .iand, 20, 0, 0, 0, 0), (20, .ifCond .eq 9, 23, 29, 0, 0, 0), (23, .iload_n 2, 24, 2, 0, 0, 0), (24, .iconst 1, 25, 0, 0, 1, 0), (25, .iload_n 3, 26, 3, 0, 0, 0), (26, .ishl, 27, 0, 0, 0, 0), (27, .ior, 28, 0, 0, 0, 0), (28, .istore_n 2, 29, 2, 0, 0, 0), (29, .iinc 3 1, 32, 3, 0, 1, 0), (32, .goto (-28), 4, 0, 0, 0, 0), (35, .iload_n 2, 36, 2, 0, 0, 0), (36, .ireturn, 37, 0, 0, 0, 0)]
abbrev mX2_aheadOf : MD := (yX2_aheadOf, cX2_aheadOf, 4, (some .int), { frames := 0, cells := 0, slots := 0, locals := 0 }, tbX2_aheadOf)
def tbX2_after : List (Nat × En) := [(0, .aload_n 0, 1, 0, 0, 0, 0), (1, .iload_n 1, 2, 1, 0, 0, 0), (2, .invokevirtual 41, 5, 1, 0, 0, 0), (5, .aload_n 0, 6, 0, 0, 0, 0), (6, .getfield 15, 9, 2, 1, 0, 0), (9, .iload_n 2, 10, 2, 0, 0, 0), (10, .iaload, 11, 0, 0, 0, 0), (11, .iand, 12, 0, 0, 0, 0), (12, .ireturn, 13, 0, 0, 0, 0)]
abbrev mX2_after : MD := (yX2_after, cX2_after, 3, (some .int), { frames := 1, cells := 0, slots := 0, locals := 23 }, tbX2_after)
def tbX3_init : List (Nat × En) := [(0, .aload_n 0, 1, 0, 0, 0, 0), (1, .invokespecial 3, 4, 0, 0, 0, 0), (4, .aload_n 0, 5, 0, 0, 0, 0), (5, .bipush 10, 7, 0, 0, 10, 0), (7, .newarray .int, 9, 0, 0, 0, 0), (9, .putfield 9, 12, 3, 0, 0, 0), (12, .aload_n 0, 13, 0, 0, 0, 0), (13, .bipush 10, 15, 0, 0, 10, 0), (15, .newarray .int, 17, 0, 0, 0, 0), (17, .putfield 15, 20, 3, 1, 0, 0), (20, .aload_n 0, 21, 0, 0, 0, 0), (21, .bipush 10, 23, 0, 0, 10, 0), (23, .newarray .int, 25, 0, 0, 0, 0), (25, .putfield 18, 28, 3, 2, 0, 0), (28, .return_, 29, 0, 0, 0, 0)]
abbrev mX3_init : MD := (yX3_init, cX3_init, 1, none, { frames := 1, cells := 3, slots := 30, locals := 20 }, tbX3_init)
def tbX3_spreads : List (Nat × En) := [(0, .iconst 0, 1, 0, 0, 0, 0), (1, .istore_n 3, 2, 3, 0, 0, 0), (2, .iload_n 3, 3, 3, 0, 0, 0), (3, .bipush 10, 5, 0, 0, 10, 0), (5, .if_icmp .ge 45, 8, 50, 0, 0, 0), (8, .aload_n 0, 9, 0, 0, 0, 0), (9, .getfield 18, 12, 3, 2, 0, 0), (12, .iload_n 3, 13, 3, 0, 0, 0), (13, .aload_n 0, 14, 0, 0, 0, 0), (14, .getfield 15, 17, 3, 1, 0, 0), (17, .iload_n 3, 18, 3, 0, 0, 0), (18, .iaload, 19, 0, 0, 0, 0), (19, .ifCond .ne 7, 22, 26, 0, 0, 0), (22, .iconst 0, 23, 0, 0, 0, 0), (23, .goto 13, 36, 0, 0, 0, 0), (26, .aload_n 1, 27, 1, 0, 0, 0), (27, .aload_n 0, 28, 0, 0, 0, 0), (28, .getfield 15, 31, 3, 1, 0, 0), (31, .iload_n 3, 32, 3, 0, 0, 0), (32, .iaload, 33, 0, 0, 0, 0), (33, .invokevirtual 37, 36, 1, 0, 0, 0), (36, .iastore, 37, 0, 0, 0, 0), (37, .aload_n 0, 38, 0, 0, 0, 0), (38, .getfield 15, 41, 3, 1, 0, 0), (41, .iload_n 3, 42, 3, 0, 0, 0), (42, .iconst 0, 43, 0, 0, 0, 0), (43, .iastore, 44, 0, 0, 0, 0), (44, .iinc 3 1, 47, 3, 0, 1, 0), (47, .goto (-45), 2, 0, 0, 0, 0), (50, .iconst 0, 51, 0, 0, 0, 0), (51, .istore_n 3, 52, 3, 0, 0, 0), (52, .iconst 0, 53, 0, 0, 0, 0), (53, .istore 4, 55, 4, 0, 0, 0), (55, .iload 4, 57, 4, 0, 0, 0), (57, .aload_n 2, 58, 2, 0, 0, 0), (58, .getfield 41, 61, 7, 4, 0, 0), (61, .if_icmp .ge 86, 64, 147, 0, 0, 0), (64, .aload_n 2, 65, 2, 0, 0, 0), (65, .getfield 47, 68, 7, 2, 0, 0), (68, .iload 4, 70, 4, 0, 0, 0), (70, .iaload, 71, 0, 0, 0, 0), (71, .istore 5, 73, 5, 0, 0, 0), (73, .aload_n 0, 74, 0, 0, 0, 0), (74, .getfield 18, 77, 3, 2, 0, 0), (77, .aload_n 2, 78, 2, 0, 0, 0), (78, .getfield 50, 81, 7, 0, 0, 0), (81, .iload 4, 83, 4, 0, 0, 0), (83, .iaload, 84, 0, 0, 0, 0), (84, .iaload, 85, 0, 0, 0, 0), (85, .aload_n 1, 86, 1, 0, 0, 0), (86, .getfield 53, 89, 2, 1, 0, 0), (89, .aload_n 2, 90, 2, 0, 0, 0), (90, .getfield 56, 93, 7, 1, 0, 0), (93, .iload 4, 95, 4, 0, 0, 0), (95, .iaload, 96, 0, 0, 0, 0), (96, .iaload, 97, 0, 0, 0, 0), (97, .iand, 98, 0, 0, 0, 0), (98, .aload_n 0, 99, 0, 0, 0, 0), (99, .getfield 9, 102, 3, 0, 0, 0), (102, .iload 5, 104, 5, 0, 0, 0), (104, .iaload, 105, 0, 0, 0, 0), (105, .iconst (-1), 106, 0, 0, -1, 0), (106, .ixor, 107, 0, 0, 0, 0), (107, .iand, 108, 0, 0, 0, 0), (108, .istore 6, 110, 6, 0, 0, 0), (110, .iload 6, 112, 6, 0, 0, 0), (112, .ifCond .eq 29, 115, 141, 0, 0, 0), (115, .aload_n 0, 116, 0, 0, 0, 0), (116, .getfield 9, 119, 3, 0, 0, 0), (119, .iload 5, 121, 5, 0, 0, 0), (121, .dup2, 122, 0, 0, 0, 0), (122, .iaload, 123, 0, 0, 0, 0), (123, .iload 6, 125, 6, 0, 0, 0), (125, .ior, 126, 0, 0, 0, 0), (126, .iastore, 127, 0, 0, 0, 0), (127, .aload_n 0, 128, 0, 0, 0, 0), (128, .getfield 15, 131, 3, 1, 0, 0), (131, .iload 5, 133, 5, 0, 0, 0), (133, .dup2, 134, 0, 0, 0, 0), (134, .iaload, 135, 0, 0, 0, 0), (135, .iload 6, 137, 6, 0, 0, 0), (137, .ior, 138, 0, 0, 0, 0), (138, .iastore, 139, 0, 0, 0, 0), (139, .iconst 1, 140, 0, 0, 1, 0), (140, .istore_n 3, 141, 3, 0, 0, 0), (141, .iinc 4 1, 144, 4, 0, 1, 0), (144, .goto (-89), 55, 0, 0, 0, 0), (147, .iload_n 3, 148, 3, 0, 0, 0), (148, .ireturn, 149, 0, 0, 0, 0)]
abbrev mX3_spreads : MD := (yX3_spreads, cX3_spreads, 7, (some .boolean), { frames := 1, cells := 0, slots := 0, locals := 23 }, tbX3_spreads)
def tbX3_endsFrom : List (Nat × En) := [(0, .aload_n 0, 1, 0, 0, 0, 0), (1, .getfield 9, 4, 3, 0, 0, 0), (4, .iconst 0, 5, 0, 0, 0, 0), (5, .invokestatic 21, 8, 2, 0, 0, 0), (8, .aload_n 0, 9, 0, 0, 0, 0), (9, .getfield 15, 12, 3, 1, 0, 0), (12, .iconst 0, 13, 0, 0, 0, 0), (13, .invokestatic 21, 16, 2, 0, 0, 0), (16, .aload_n 0, 17, 0, 0, 0, 0), (17, .getfield 9, 20, 3, 0, 0, 0), (20, .iload_n 3, 21, 3, 0, 0, 0), (21, .iconst 1, 22, 0, 0, 1, 0), (22, .iastore, 23, 0, 0, 0, 0), (23, .aload_n 0, 24, 0, 0, 0, 0), (24, .getfield 15, 27, 3, 1, 0, 0), (27, .iload_n 3, 28, 3, 0, 0, 0), (28, .iconst 1, 29, 0, 0, 1, 0), (29, .iastore, 30, 0, 0, 0, 0), (30, .iconst 1, 31, 0, 0, 1, 0), (31, .istore 4, 33, 4, 0, 0, 0), (33, .iconst 0, 34, 0, 0, 0, 0), (34, .istore 5, 36, 5, 0, 0, 0), (36, .iload 4, 38, 4, 0, 0, 0), (38, .ifCond .eq 25, 41, 63, 0, 0, 0), (41, .iload 5, 43, 5, 0, 0, 0), (43, .sipush 250, 46, 0, 0, 250, 0), (46, .if_icmp .gt 17, 49, 63, 0, 0, 0), (49, .aload_n 0, 50, 0, 0, 0, 0), (50, .aload_n 1, 51, 1, 0, 0, 0), (51, .aload_n 2, 52, 2, 0, 0, 0), (52, .invokevirtual 27, 55, 2, 0, 0, 0), (55, .istore 4, 57, 4, 0, 0, 0), (57, .iinc 5 1, 60, 5, 0, 1, 0), (60, .goto (-24), 36, 0, 0, 0, 0), (63, .iconst 0, 64, 0, 0, 0, 0), (64, .istore 5, 66, 5, 0, 0, 0), (66, .iconst 0, 67, 0, 0, 0, 0), (67, .istore 6, 69, 6, 0, 0, 0), (69, .iload 6, 71, 6, 0, 0, 0), (71, .bipush 10, 73, 0, 0, 10, 0), (73, .if_icmp .ge 32, 76, 105, 0, 0, 0), (76, .aload_n 1, 77, 1, 0, 0, 0), (77, .aload_n 0, 78, 0, 0, 0, 0), (78, .getfield 9, 81, 3, 0, 0, 0), (81, .iload 6, 83, 6, 0, 0, 0), (83, .iaload, 84, 0, 0, 0, 0), (84, .invokevirtual 31, 87, 1, 0, 0, 0), (87, .ifCond .eq 12, 90, 99, 0, 0, 0), (90, .iload 5, 92, 5, 0, 0, 0), (92, .iconst 1, 93, 0, 0, 1, 0), (93, .iload 6, 95, 6, 0, 0, 0), (95, .ishl, 96, 0, 0, 0, 0), (96, .ior, 97, 0, 0, 0, 0), (97, .istore 5, 99, 5, 0, 0, 0), (99, .iinc 6 1, 102, 6, 0, 1, 0), (102, .goto (-33), 69, 0, 0, 0, 0), (105, .iload 5, 107, 5, 0, 0, 0), (107, .ireturn, 108, 0, 0, 0, 0)]
abbrev mX3_endsFrom : MD := (yX3_endsFrom, cX3_endsFrom, 7, (some .int), { frames := 2, cells := 0, slots := 0, locals := 49 }, tbX3_endsFrom)
def tbX4_init : List (Nat × En) := [(0, .aload_n 0, 1, 0, 0, 0, 0), (1, .invokespecial 3, 4, 0, 0, 0, 0), (4, .aload_n 0, 5, 0, 0, 0, 0), (5, .new 9, 8, 2, 0, 0, 0), (8, .dup, 9, 0, 0, 0, 0), (9, .invokespecial 11, 12, 0, 1, 0, 0), (12, .putfield 12, 15, 4, 0, 0, 0), (15, .aload_n 0, 16, 0, 0, 0, 0), (16, .bipush 81, 18, 0, 0, 81, 0), (18, .newarray .int, 20, 0, 0, 0, 0), (20, .putfield 18, 23, 4, 1, 0, 0), (23, .aload_n 0, 24, 0, 0, 0, 0), (24, .bipush 81, 26, 0, 0, 81, 0), (26, .newarray .int, 28, 0, 0, 0, 0), (28, .putfield 22, 31, 4, 2, 0, 0), (31, .aload_n 0, 32, 0, 0, 0, 0), (32, .bipush 81, 34, 0, 0, 81, 0), (34, .newarray .int, 36, 0, 0, 0, 0), (36, .putfield 25, 39, 4, 3, 0, 0), (39, .aload_n 0, 40, 0, 0, 0, 0), (40, .bipush 81, 42, 0, 0, 81, 0), (42, .newarray .int, 44, 0, 0, 0, 0), (44, .putfield 28, 47, 4, 4, 0, 0), (47, .return_, 48, 0, 0, 0, 0)]
abbrev mX4_init : MD := (yX4_init, cX4_init, 1, none, { frames := 2, cells := 7, slots := 362, locals := 40 }, tbX4_init)
def tbX4_beginRow : List (Nat × En) := [(0, .aload_n 0, 1, 0, 0, 0, 0), (1, .getfield 18, 4, 4, 1, 0, 0), (4, .aload_n 0, 5, 0, 0, 0, 0), (5, .getfield 34, 8, 4, 5, 0, 0), (8, .iconst 1, 9, 0, 0, 1, 0), (9, .iastore, 10, 0, 0, 0, 0), (10, .aload_n 0, 11, 0, 0, 0, 0), (11, .getfield 22, 14, 4, 2, 0, 0), (14, .aload_n 0, 15, 0, 0, 0, 0), (15, .getfield 34, 18, 4, 5, 0, 0), (18, .iconst 1, 19, 0, 0, 1, 0), (19, .iastore, 20, 0, 0, 0, 0), (20, .return_, 21, 0, 0, 0, 0)]
abbrev mX4_beginRow : MD := (yX4_beginRow, cX4_beginRow, 1, none, { frames := 0, cells := 0, slots := 0, locals := 0 }, tbX4_beginRow)
def tbX4_beginChoice : List (Nat × En) := [(0, .aload_n 0, 1, 0, 0, 0, 0), (1, .getfield 25, 4, 4, 3, 0, 0), (4, .aload_n 0, 5, 0, 0, 0, 0), (5, .getfield 34, 8, 4, 5, 0, 0), (8, .iconst 0, 9, 0, 0, 0, 0), (9, .iastore, 10, 0, 0, 0, 0), (10, .aload_n 0, 11, 0, 0, 0, 0), (11, .getfield 28, 14, 4, 4, 0, 0), (14, .aload_n 0, 15, 0, 0, 0, 0), (15, .getfield 34, 18, 4, 5, 0, 0), (18, .iconst 0, 19, 0, 0, 0, 0), (19, .iastore, 20, 0, 0, 0, 0), (20, .aload_n 0, 21, 0, 0, 0, 0), (21, .invokevirtual 90, 24, 0, 0, 0, 0), (24, .return_, 25, 0, 0, 0, 0)]
abbrev mX4_beginChoice : MD := (yX4_beginChoice, cX4_beginChoice, 1, none, { frames := 1, cells := 0, slots := 0, locals := 20 }, tbX4_beginChoice)
def tbX4_closePart : List (Nat × En) := [(0, .aload_n 0, 1, 0, 0, 0, 0), (1, .getfield 38, 4, 4, 8, 0, 0), (4, .iconst 2, 5, 0, 0, 2, 0), (5, .if_icmp .eq 4, 8, 9, 0, 0, 0), (8, .return_, 9, 0, 0, 0, 0), (9, .aload_n 0, 10, 0, 0, 0, 0), (10, .getfield 12, 13, 4, 0, 0, 0), (13, .aload_n 0, 14, 0, 0, 0, 0), (14, .getfield 22, 17, 4, 2, 0, 0), (17, .aload_n 0, 18, 0, 0, 0, 0), (18, .getfield 34, 21, 4, 5, 0, 0), (21, .iaload, 22, 0, 0, 0, 0), (22, .aload_n 0, 23, 0, 0, 0, 0), (23, .getfield 96, 26, 4, 6, 0, 0), (26, .invokevirtual 99, 29, 2, 0, 0, 0), (29, .aload_n 0, 30, 0, 0, 0, 0), (30, .getfield 18, 33, 4, 1, 0, 0), (33, .aload_n 0, 34, 0, 0, 0, 0), (34, .getfield 34, 37, 4, 5, 0, 0), (37, .iaload, 38, 0, 0, 0, 0), (38, .iconst 1, 39, 0, 0, 1, 0), (39, .iand, 40, 0, 0, 0, 0), (40, .ifCond .eq 29, 43, 69, 0, 0, 0), (43, .aload_n 0, 44, 0, 0, 0, 0), (44, .getfield 18, 47, 4, 1, 0, 0), (47, .aload_n 0, 48, 0, 0, 0, 0), (48, .getfield 34, 51, 4, 5, 0, 0), (51, .aload_n 0, 52, 0, 0, 0, 0), (52, .getfield 18, 55, 4, 1, 0, 0), (55, .aload_n 0, 56, 0, 0, 0, 0), (56, .getfield 34, 59, 4, 5, 0, 0), (59, .iaload, 60, 0, 0, 0, 0), (60, .bipush (-2), 62, 0, 0, -2, 0), (62, .iand, 63, 0, 0, 0, 0), (63, .aload_n 0, 64, 0, 0, 0, 0), (64, .getfield 96, 67, 4, 6, 0, 0), (67, .ior, 68, 0, 0, 0, 0), (68, .iastore, 69, 0, 0, 0, 0), (69, .aload_n 0, 70, 0, 0, 0, 0), (70, .getfield 93, 73, 4, 7, 0, 0), (73, .iconst 1, 74, 0, 0, 1, 0), (74, .iand, 75, 0, 0, 0, 0), (75, .ifCond .eq 25, 78, 100, 0, 0, 0), (78, .aload_n 0, 79, 0, 0, 0, 0), (79, .getfield 22, 82, 4, 2, 0, 0), (82, .aload_n 0, 83, 0, 0, 0, 0), (83, .getfield 34, 86, 4, 5, 0, 0), (86, .dup2, 87, 0, 0, 0, 0), (87, .iaload, 88, 0, 0, 0, 0), (88, .aload_n 0, 89, 0, 0, 0, 0), (89, .getfield 93, 92, 4, 7, 0, 0), (92, .bipush (-2), 94, 0, 0, -2, 0), (94, .iand, 95, 0, 0, 0, 0), (95, .ior, 96, 0, 0, 0, 0), (96, .iastore, 97, 0, 0, 0, 0), (97, .goto 16, 113, 0, 0, 0, 0), (100, .aload_n 0, 101, 0, 0, 0, 0), (101, .getfield 22, 104, 4, 2, 0, 0), (104, .aload_n 0, 105, 0, 0, 0, 0), (105, .getfield 34, 108, 4, 5, 0, 0), (108, .aload_n 0, 109, 0, 0, 0, 0), (109, .getfield 93, 112, 4, 7, 0, 0), (112, .iastore, 113, 0, 0, 0, 0), (113, .return_, 114, 0, 0, 0, 0)]
abbrev mX4_closePart : MD := (yX4_closePart, cX4_closePart, 1, none, { frames := 1, cells := 0, slots := 0, locals := 23 }, tbX4_closePart)
def tbX4_opens : List (Nat × En) := [(0, .aload_n 0, 1, 0, 0, 0, 0), (1, .getfield 34, 4, 4, 5, 0, 0), (4, .bipush 80, 6, 0, 0, 80, 0), (6, .if_icmp .lt 5, 9, 11, 0, 0, 0), (9, .iconst 0, 10, 0, 0, 0, 0), (10, .ireturn, 11, 0, 0, 0, 0), (11, .aload_n 0, 12, 0, 0, 0, 0), (12, .invokevirtual 80, 15, 0, 0, 0, 0), (15, .aload_n 0, 16, 0, 0, 0, 0), (16, .dup, 17, 0, 0, 0, 0), (17, .getfield 34, 20, 4, 5, 0, 0), (20, .iconst 1, 21, 0, 0, 1, 0), (21, .iadd, 22, 0, 0, 0, 0), (22, .putfield 34, 25, 4, 5, 0, 0), (25, .aload_n 0, 26, 0, 0, 0, 0), (26, .invokevirtual 41, 29, 0, 0, 0, 0), (29, .aload_n 0, 30, 0, 0, 0, 0), (30, .iconst 1, 31, 0, 0, 1, 0), (31, .putfield 38, 34, 4, 8, 0, 0), (34, .iconst 1, 35, 0, 0, 1, 0), (35, .ireturn, 36, 0, 0, 0, 0)]
abbrev mX4_opens : MD := (yX4_opens, cX4_opens, 1, (some .boolean), { frames := 2, cells := 0, slots := 0, locals := 43 }, tbX4_opens)
def tbX4_closeRow : List (Nat × En) := [(0, .aload_n 0, 1, 0, 0, 0, 0), (1, .invokevirtual 80, 4, 0, 0, 0, 0), (4, .aload_n 0, 5, 0, 0, 0, 0), (5, .getfield 25, 8, 4, 3, 0, 0), (8, .aload_n 0, 9, 0, 0, 0, 0), (9, .getfield 34, 12, 4, 5, 0, 0), (12, .dup2, 13, 0, 0, 0, 0), (13, .iaload, 14, 0, 0, 0, 0), (14, .aload_n 0, 15, 0, 0, 0, 0), (15, .getfield 18, 18, 4, 1, 0, 0), (18, .aload_n 0, 19, 0, 0, 0, 0), (19, .getfield 34, 22, 4, 5, 0, 0), (22, .iaload, 23, 0, 0, 0, 0), (23, .ior, 24, 0, 0, 0, 0), (24, .iastore, 25, 0, 0, 0, 0), (25, .aload_n 0, 26, 0, 0, 0, 0), (26, .getfield 28, 29, 4, 4, 0, 0), (29, .aload_n 0, 30, 0, 0, 0, 0), (30, .getfield 34, 33, 4, 5, 0, 0), (33, .dup2, 34, 0, 0, 0, 0), (34, .iaload, 35, 0, 0, 0, 0), (35, .aload_n 0, 36, 0, 0, 0, 0), (36, .getfield 22, 39, 4, 2, 0, 0), (39, .aload_n 0, 40, 0, 0, 0, 0), (40, .getfield 34, 43, 4, 5, 0, 0), (43, .iaload, 44, 0, 0, 0, 0), (44, .ior, 45, 0, 0, 0, 0), (45, .iastore, 46, 0, 0, 0, 0), (46, .return_, 47, 0, 0, 0, 0)]
abbrev mX4_closeRow : MD := (yX4_closeRow, cX4_closeRow, 1, none, { frames := 2, cells := 0, slots := 0, locals := 43 }, tbX4_closeRow)
def tbX4_openPart : List (Nat × En) := [(0, .aload_n 0, 1, 0, 0, 0, 0), (1, .iload_n 1, 2, 1, 0, 0, 0), (2, .putfield 96, 5, 4, 6, 0, 0), (5, .aload_n 0, 6, 0, 0, 0, 0), (6, .iload_n 2, 7, 2, 0, 0, 0), (7, .putfield 93, 10, 4, 7, 0, 0), (10, .aload_n 0, 11, 0, 0, 0, 0), (11, .iconst 2, 12, 0, 0, 2, 0), (12, .putfield 38, 15, 4, 8, 0, 0), (15, .return_, 16, 0, 0, 0, 0)]
abbrev mX4_openPart : MD := (yX4_openPart, cX4_openPart, 3, none, { frames := 0, cells := 0, slots := 0, locals := 0 }, tbX4_openPart)
def tbX4_closes : List (Nat × En) := [(0, .aload_n 0, 1, 0, 0, 0, 0), (1, .getfield 34, 4, 4, 5, 0, 0), (4, .ifCond .eq 10, 7, 14, 0, 0, 0), (7, .aload_n 0, 8, 0, 0, 0, 0), (8, .getfield 38, 11, 4, 8, 0, 0), (11, .ifCond .ne 5, 14, 16, 0, 0, 0), (14, .iconst 0, 15, 0, 0, 0, 0), (15, .ireturn, 16, 0, 0, 0, 0), (16, .aload_n 0, 17, 0, 0, 0, 0), (17, .invokevirtual 48, 20, 0, 0, 0, 0), (20, .aload_n 0, 21, 0, 0, 0, 0), (21, .getfield 34, 24, 4, 5, 0, 0), (24, .istore_n 1, 25, 1, 0, 0, 0), (25, .aload_n 0, 26, 0, 0, 0, 0), (26, .dup, 27, 0, 0, 0, 0), (27, .getfield 34, 30, 4, 5, 0, 0), (30, .iconst 1, 31, 0, 0, 1, 0), (31, .isub, 32, 0, 0, 0, 0), (32, .putfield 34, 35, 4, 5, 0, 0), (35, .aload_n 0, 36, 0, 0, 0, 0), (36, .aload_n 0, 37, 0, 0, 0, 0), (37, .getfield 25, 40, 4, 3, 0, 0), (40, .iload_n 1, 41, 1, 0, 0, 0), (41, .iaload, 42, 0, 0, 0, 0), (42, .aload_n 0, 43, 0, 0, 0, 0), (43, .getfield 28, 46, 4, 4, 0, 0), (46, .iload_n 1, 47, 1, 0, 0, 0), (47, .iaload, 48, 0, 0, 0, 0), (48, .invokevirtual 86, 51, 2, 0, 0, 0), (51, .iconst 1, 52, 0, 0, 1, 0), (52, .ireturn, 53, 0, 0, 0, 0)]
abbrev mX4_closes : MD := (yX4_closes, cX4_closes, 2, (some .boolean), { frames := 3, cells := 0, slots := 0, locals := 63 }, tbX4_closes)
def tbX4_turns : List (Nat × En) := [(0, .aload_n 0, 1, 0, 0, 0, 0), (1, .getfield 38, 4, 4, 8, 0, 0), (4, .iconst 2, 5, 0, 0, 2, 0), (5, .if_icmp .eq 5, 8, 10, 0, 0, 0), (8, .iconst 0, 9, 0, 0, 0, 0), (9, .ireturn, 10, 0, 0, 0, 0), (10, .aload_n 0, 11, 0, 0, 0, 0), (11, .invokevirtual 48, 14, 0, 0, 0, 0), (14, .aload_n 0, 15, 0, 0, 0, 0), (15, .invokevirtual 90, 18, 0, 0, 0, 0), (18, .aload_n 0, 19, 0, 0, 0, 0), (19, .iconst 0, 20, 0, 0, 0, 0), (20, .putfield 38, 23, 4, 8, 0, 0), (23, .iconst 1, 24, 0, 0, 1, 0), (24, .ireturn, 25, 0, 0, 0, 0)]
abbrev mX4_turns : MD := (yX4_turns, cX4_turns, 1, (some .boolean), { frames := 3, cells := 0, slots := 0, locals := 63 }, tbX4_turns)
def tbX4_repeats : List (Nat × En) := [(0, .aload_n 0, 1, 0, 0, 0, 0), (1, .getfield 38, 4, 4, 8, 0, 0), (4, .iconst 2, 5, 0, 0, 2, 0), (5, .if_icmp .eq 5, 8, 10, 0, 0, 0), (8, .iconst 0, 9, 0, 0, 0, 0), (9, .ireturn, 10, 0, 0, 0, 0), (10, .iload_n 1, 11, 1, 0, 0, 0), (11, .bipush 63, 13, 0, 0, 63, 0), (13, .if_icmp .eq 18, 16, 31, 0, 0, 0), (16, .aload_n 0, 17, 0, 0, 0, 0), (17, .getfield 12, 20, 4, 0, 0, 0), (20, .aload_n 0, 21, 0, 0, 0, 0), (21, .getfield 93, 24, 4, 7, 0, 0), (24, .aload_n 0, 25, 0, 0, 0, 0), (25, .getfield 96, 28, 4, 6, 0, 0), (28, .invokevirtual 99, 31, 2, 0, 0, 0), (31, .iload_n 1, 32, 1, 0, 0, 0), (32, .bipush 43, 34, 0, 0, 43, 0), (34, .if_icmp .eq 23, 37, 57, 0, 0, 0), (37, .aload_n 0, 38, 0, 0, 0, 0), (38, .dup, 39, 0, 0, 0, 0), (39, .getfield 96, 42, 4, 6, 0, 0), (42, .iconst 1, 43, 0, 0, 1, 0), (43, .ior, 44, 0, 0, 0, 0), (44, .putfield 96, 47, 4, 6, 0, 0), (47, .aload_n 0, 48, 0, 0, 0, 0), (48, .dup, 49, 0, 0, 0, 0), (49, .getfield 93, 52, 4, 7, 0, 0), (52, .iconst 1, 53, 0, 0, 1, 0), (53, .ior, 54, 0, 0, 0, 0), (54, .putfield 93, 57, 4, 7, 0, 0), (57, .iconst 1, 58, 0, 0, 1, 0), (58, .ireturn, 59, 0, 0, 0, 0)]
abbrev mX4_repeats : MD := (yX4_repeats, cX4_repeats, 2, (some .boolean), { frames := 1, cells := 0, slots := 0, locals := 23 }, tbX4_repeats)
def tbX4_signsOf : List (Nat × En) := [(0, .iload_n 0, 1, 0, 0, 0, 0), (1, .bipush 97, 3, 0, 0, 97, 0), (3, .if_icmp .lt 16, 6, 19, 0, 0, 0), (6, .iload_n 0, 7, 0, 0, 0, 0), (7, .bipush 100, 9, 0, 0, 100, 0), (9, .if_icmp .gt 10, 12, 19, 0, 0, 0), (12, .iconst 1, 13, 0, 0, 1, 0), (13, .iload_n 0, 14, 0, 0, 0, 0), (14, .bipush 97, 16, 0, 0, 97, 0), (16, .isub, 17, 0, 0, 0, 0), (17, .ishl, 18, 0, 0, 0, 0), (18, .ireturn, 19, 0, 0, 0, 0), (19, .iload_n 0, 20, 0, 0, 0, 0), (20, .bipush 65, 22, 0, 0, 65, 0), (22, .if_icmp .lt 18, 25, 40, 0, 0, 0), (25, .iload_n 0, 26, 0, 0, 0, 0), (26, .bipush 68, 28, 0, 0, 68, 0), (28, .if_icmp .gt 12, 31, 40, 0, 0, 0), (31, .iconst 1, 32, 0, 0, 1, 0), (32, .iload_n 0, 33, 0, 0, 0, 0), (33, .bipush 65, 35, 0, 0, 65, 0), (35, .isub, 36, 0, 0, 0, 0), (36, .iconst 4, 37, 0, 0, 4, 0), (37, .iadd, 38, 0, 0, 0, 0), (38, .ishl, 39, 0, 0, 0, 0), (39, .ireturn, 40, 0, 0, 0, 0), (40, .iload_n 0, 41, 0, 0, 0, 0), (41, .bipush 46, 43, 0, 0, 46, 0), (43, .if_icmp .ne 6, 46, 49, 0, 0, 0), (46, .bipush 15, 48, 0, 0, 15, 0), (48, .ireturn, 49, 0, 0, 0, 0), (49, .iload_n 0, 50, 0, 0, 0, 0), (50, .bipush 45, 52, 0, 0, 45, 0), (52, .if_icmp .ne 9, 55, 61, 0, 0, 0), (55, .sipush 240, 58, 0, 0, 240, 0), (58, .goto 4, 62, 0, 0, 0, 0), (61, .iconst 0, 62, 0, 0, 0, 0), (62, .ireturn, 63, 0, 0, 0, 0)]
abbrev mX4_signsOf : MD := (yX4_signsOf, cX4_signsOf, 1, (some .int), { frames := 0, cells := 0, slots := 0, locals := 0 }, tbX4_signsOf)
def tbX4_takesPlace : List (Nat × En) := [(0, .iload_n 1, 1, 1, 0, 0, 0), (1, .ifCond .eq 15, 4, 16, 0, 0, 0), (4, .aload_n 0, 5, 0, 0, 0, 0), (5, .getfield 12, 8, 4, 0, 0, 0), (8, .getfield 77, 11, 2, 3, 0, 0), (11, .bipush 24, 13, 0, 0, 24, 0), (13, .if_icmp .lt 5, 16, 18, 0, 0, 0), (16, .iconst 0, 17, 0, 0, 0, 0), (17, .ireturn, 18, 0, 0, 0, 0), (18, .aload_n 0, 19, 0, 0, 0, 0), (19, .invokevirtual 80, 22, 0, 0, 0, 0), (22, .aload_n 0, 23, 0, 0, 0, 0), (23, .getfield 12, 26, 4, 0, 0, 0), (26, .iload_n 1, 27, 1, 0, 0, 0), (27, .invokevirtual 83, 30, 1, 0, 0, 0), (30, .istore_n 2, 31, 2, 0, 0, 0), (31, .aload_n 0, 32, 0, 0, 0, 0), (32, .iload_n 2, 33, 2, 0, 0, 0), (33, .iload_n 2, 34, 2, 0, 0, 0), (34, .invokevirtual 86, 37, 2, 0, 0, 0), (37, .iconst 1, 38, 0, 0, 1, 0), (38, .ireturn, 39, 0, 0, 0, 0)]
abbrev mX4_takesPlace : MD := (yX4_takesPlace, cX4_takesPlace, 3, (some .boolean), { frames := 2, cells := 0, slots := 0, locals := 43 }, tbX4_takesPlace)
def tbX4_takes : List (Nat × En) := [(0, .iload_n 1, 1, 1, 0, 0, 0), (1, .lookupswitch 90 #[(32, 67), (40, 69), (41, 74), (42, 84), (43, 84), (63, 84), (124, 79)], 68, 0, 67, 0, 0), (68, .iconst 1, 69, 0, 0, 1, 0), (69, .ireturn, 70, 0, 0, 0, 0), (70, .aload_n 0, 71, 0, 0, 0, 0), (71, .invokevirtual 57, 74, 0, 0, 0, 0), (74, .ireturn, 75, 0, 0, 0, 0), (75, .aload_n 0, 76, 0, 0, 0, 0), (76, .invokevirtual 61, 79, 0, 0, 0, 0), (79, .ireturn, 80, 0, 0, 0, 0), (80, .aload_n 0, 81, 0, 0, 0, 0), (81, .invokevirtual 64, 84, 0, 0, 0, 0), (84, .ireturn, 85, 0, 0, 0, 0), (85, .aload_n 0, 86, 0, 0, 0, 0), (86, .iload_n 1, 87, 1, 0, 0, 0), (87, .invokevirtual 67, 90, 1, 0, 0, 0), (90, .ireturn, 91, 0, 0, 0, 0), (91, .aload_n 0, 92, 0, 0, 0, 0), (92, .iload_n 1, 93, 1, 0, 0, 0), (93, .invokestatic 70, 96, 1, 0, 0, 0), (96, .invokevirtual 74, 99, 1, 0, 0, 0), (99, .ireturn, 100, 0, 0, 0, 0)]
abbrev mX4_takes : MD := (yX4_takes, cX4_takes, 2, (some .boolean), { frames := 4, cells := 0, slots := 0, locals := 84 }, tbX4_takes)
def tbX4_faultOf : List (Nat × En) := [(0, .aload_n 0, 1, 0, 0, 0, 0), (1, .getfield 12, 4, 4, 0, 0, 0), (4, .invokevirtual 31, 7, 0, 0, 0, 0), (7, .aload_n 0, 8, 0, 0, 0, 0), (8, .iconst 0, 9, 0, 0, 0, 0), (9, .putfield 34, 12, 4, 5, 0, 0), (12, .aload_n 0, 13, 0, 0, 0, 0), (13, .iconst 0, 14, 0, 0, 0, 0), (14, .putfield 38, 17, 4, 8, 0, 0), (17, .aload_n 0, 18, 0, 0, 0, 0), (18, .invokevirtual 41, 21, 0, 0, 0, 0), (21, .iconst 0, 22, 0, 0, 0, 0), (22, .istore_n 3, 23, 3, 0, 0, 0), (23, .iload_n 3, 24, 3, 0, 0, 0), (24, .iload_n 2, 25, 2, 0, 0, 0), (25, .if_icmp .ge 27, 28, 52, 0, 0, 0), (28, .iload_n 3, 29, 3, 0, 0, 0), (29, .bipush 80, 31, 0, 0, 80, 0), (31, .if_icmp .ge 21, 34, 52, 0, 0, 0), (34, .aload_n 0, 35, 0, 0, 0, 0), (35, .aload_n 1, 36, 1, 0, 0, 0), (36, .iload_n 3, 37, 3, 0, 0, 0), (37, .iaload, 38, 0, 0, 0, 0), (38, .invokevirtual 44, 41, 1, 0, 0, 0), (41, .ifCond .ne 5, 44, 46, 0, 0, 0), (44, .iload_n 3, 45, 3, 0, 0, 0), (45, .ireturn, 46, 0, 0, 0, 0), (46, .iinc 3 1, 49, 3, 0, 1, 0), (49, .goto (-26), 23, 0, 0, 0, 0), (52, .aload_n 0, 53, 0, 0, 0, 0), (53, .getfield 38, 56, 4, 8, 0, 0), (56, .iconst 2, 57, 0, 0, 2, 0), (57, .if_icmp .ne 10, 60, 67, 0, 0, 0), (60, .aload_n 0, 61, 0, 0, 0, 0), (61, .getfield 34, 64, 4, 5, 0, 0), (64, .ifCond .eq 5, 67, 69, 0, 0, 0), (67, .iload_n 2, 68, 2, 0, 0, 0), (68, .ireturn, 69, 0, 0, 0, 0), (69, .aload_n 0, 70, 0, 0, 0, 0), (70, .invokevirtual 48, 73, 0, 0, 0, 0), (73, .aload_n 0, 74, 0, 0, 0, 0), (74, .getfield 12, 77, 4, 0, 0, 0), (77, .getfield 51, 80, 2, 0, 0, 0), (80, .iconst 0, 81, 0, 0, 0, 0), (81, .aload_n 0, 82, 0, 0, 0, 0), (82, .getfield 25, 85, 4, 3, 0, 0), (85, .iconst 0, 86, 0, 0, 0, 0), (86, .iaload, 87, 0, 0, 0, 0), (87, .bipush (-2), 89, 0, 0, -2, 0), (89, .iand, 90, 0, 0, 0, 0), (90, .iastore, 91, 0, 0, 0, 0), (91, .aload_n 0, 92, 0, 0, 0, 0), (92, .getfield 12, 95, 4, 0, 0, 0), (95, .aload_n 0, 96, 0, 0, 0, 0), (96, .getfield 28, 99, 4, 4, 0, 0), (99, .iconst 0, 100, 0, 0, 0, 0), (100, .iaload, 101, 0, 0, 0, 0), (101, .putfield 54, 104, 2, 2, 0, 0), (104, .iconst (-1), 105, 0, 0, -1, 0), (105, .ireturn, 106, 0, 0, 0, 0)]
abbrev mX4_faultOf : MD := (yX4_faultOf, cX4_faultOf, 4, (some .int), { frames := 5, cells := 0, slots := 0, locals := 105 }, tbX4_faultOf)
def tbX5_init : List (Nat × En) := [(0, .aload_n 0, 1, 0, 0, 0, 0), (1, .invokespecial 3, 4, 0, 0, 0, 0), (4, .aload_n 0, 5, 0, 0, 0, 0), (5, .sipush 2510, 8, 0, 0, 2510, 0), (8, .newarray .int, 10, 0, 0, 0, 0), (10, .putfield 9, 13, 5, 0, 0, 0), (13, .aload_n 0, 14, 0, 0, 0, 0), (14, .bipush 10, 16, 0, 0, 10, 0), (16, .newarray .int, 18, 0, 0, 0, 0), (18, .putfield 15, 21, 5, 1, 0, 0), (21, .aload_n 0, 22, 0, 0, 0, 0), (22, .sipush 250, 25, 0, 0, 250, 0), (25, .newarray .int, 27, 0, 0, 0, 0), (27, .putfield 18, 30, 5, 2, 0, 0), (30, .return_, 31, 0, 0, 0, 0)]
abbrev mX5_init : MD := (yX5_init, cX5_init, 1, none, { frames := 1, cells := 3, slots := 2770, locals := 20 }, tbX5_init)
def tbX5_widens : List (Nat × En) := [(0, .iload_n 3, 1, 3, 0, 0, 0), (1, .bipush 10, 3, 0, 0, 10, 0), (3, .imul, 4, 0, 0, 0, 0), (4, .istore 4, 6, 4, 0, 0, 0), (6, .iload 4, 8, 4, 0, 0, 0), (8, .bipush 10, 10, 0, 0, 10, 0), (10, .iadd, 11, 0, 0, 0, 0), (11, .istore 5, 13, 5, 0, 0, 0), (13, .iconst 0, 14, 0, 0, 0, 0), (14, .istore 6, 16, 6, 0, 0, 0), (16, .iload 6, 18, 6, 0, 0, 0), (18, .bipush 10, 20, 0, 0, 10, 0), (20, .if_icmp .ge 20, 23, 40, 0, 0, 0), (23, .aload_n 0, 24, 0, 0, 0, 0), (24, .getfield 9, 27, 5, 0, 0, 0), (27, .iload 5, 29, 5, 0, 0, 0), (29, .iload 6, 31, 6, 0, 0, 0), (31, .iadd, 32, 0, 0, 0, 0), (32, .iconst 0, 33, 0, 0, 0, 0), (33, .iastore, 34, 0, 0, 0, 0), (34, .iinc 6 1, 37, 6, 0, 1, 0), (37, .goto (-21), 16, 0, 0, 0, 0), (40, .iconst 0, 41, 0, 0, 0, 0), (41, .istore 6, 43, 6, 0, 0, 0), (43, .iconst 0, 44, 0, 0, 0, 0), (44, .istore 7, 46, 7, 0, 0, 0), (46, .iload 7, 48, 7, 0, 0, 0), (48, .aload_n 2, 49, 2, 0, 0, 0), (49, .getfield 37, 52, 7, 4, 0, 0), (52, .if_icmp .ge 110, 55, 162, 0, 0, 0), (55, .aload_n 0, 56, 0, 0, 0, 0), (56, .getfield 9, 59, 5, 0, 0, 0), (59, .iload 4, 61, 4, 0, 0, 0), (61, .aload_n 2, 62, 2, 0, 0, 0), (62, .getfield 42, 65, 7, 2, 0, 0), (65, .iload 7, 67, 7, 0, 0, 0), (67, .iaload, 68, 0, 0, 0, 0), (68, .iadd, 69, 0, 0, 0, 0), (69, .iaload, 70, 0, 0, 0, 0), (70, .aload_n 1, 71, 1, 0, 0, 0), (71, .getfield 45, 74, 2, 1, 0, 0), (74, .aload_n 2, 75, 2, 0, 0, 0), (75, .getfield 48, 78, 7, 1, 0, 0), (78, .iload 7, 80, 7, 0, 0, 0), (80, .iaload, 81, 0, 0, 0, 0), (81, .iaload, 82, 0, 0, 0, 0), (82, .iand, 83, 0, 0, 0, 0), (83, .istore 8, 85, 8, 0, 0, 0), (85, .aload_n 2, 86, 2, 0, 0, 0), (86, .getfield 51, 89, 7, 0, 0, 0), (89, .iload 7, 91, 7, 0, 0, 0), (91, .iaload, 92, 0, 0, 0, 0), (92, .istore 9, 94, 9, 0, 0, 0), (94, .iload 8, 96, 8, 0, 0, 0), (96, .ifCond .ne 7, 99, 103, 0, 0, 0), (99, .iconst 0, 100, 0, 0, 0, 0), (100, .goto 19, 119, 0, 0, 0, 0), (103, .aload_n 1, 104, 1, 0, 0, 0), (104, .iload 8, 106, 8, 0, 0, 0), (106, .invokevirtual 54, 109, 1, 0, 0, 0), (109, .aload_n 0, 110, 0, 0, 0, 0), (110, .getfield 15, 113, 5, 1, 0, 0), (113, .iload 9, 115, 9, 0, 0, 0), (115, .iaload, 116, 0, 0, 0, 0), (116, .iconst (-1), 117, 0, 0, -1, 0), (117, .ixor, 118, 0, 0, 0, 0), (118, .iand, 119, 0, 0, 0, 0), (119, .istore 10, 121, 10, 0, 0, 0), (121, .iload 10, 123, 10, 0, 0, 0), (123, .ifCond .eq 33, 126, 156, 0, 0, 0), (126, .aload_n 0, 127, 0, 0, 0, 0), (127, .getfield 15, 130, 5, 1, 0, 0), (130, .iload 9, 132, 9, 0, 0, 0), (132, .dup2, 133, 0, 0, 0, 0), (133, .iaload, 134, 0, 0, 0, 0), (134, .iload 10, 136, 10, 0, 0, 0), (136, .ior, 137, 0, 0, 0, 0), (137, .iastore, 138, 0, 0, 0, 0), (138, .aload_n 0, 139, 0, 0, 0, 0), (139, .getfield 9, 142, 5, 0, 0, 0), (142, .iload 5, 144, 5, 0, 0, 0), (144, .iload 9, 146, 9, 0, 0, 0), (146, .iadd, 147, 0, 0, 0, 0), (147, .dup2, 148, 0, 0, 0, 0), (148, .iaload, 149, 0, 0, 0, 0), (149, .iload 10, 151, 10, 0, 0, 0), (151, .ior, 152, 0, 0, 0, 0), (152, .iastore, 153, 0, 0, 0, 0), (153, .iconst 1, 154, 0, 0, 1, 0), (154, .istore 6, 156, 6, 0, 0, 0), (156, .iinc 7 1, 159, 7, 0, 1, 0), (159, .goto (-113), 46, 0, 0, 0, 0), (162, .iload 6, 164, 6, 0, 0, 0), (164, .ireturn, 165, 0, 0, 0, 0)]
abbrev mX5_widens : MD := (yX5_widens, cX5_widens, 11, (some .boolean), { frames := 1, cells := 0, slots := 0, locals := 23 }, tbX5_widens)
def tbX5_lengthOf : List (Nat × En) := [(0, .aload_n 0, 1, 0, 0, 0, 0), (1, .getfield 15, 4, 5, 1, 0, 0), (4, .iconst 0, 5, 0, 0, 0, 0), (5, .invokestatic 21, 8, 2, 0, 0, 0), (8, .iconst 0, 9, 0, 0, 0, 0), (9, .istore 5, 11, 5, 0, 0, 0), (11, .iload 5, 13, 5, 0, 0, 0), (13, .bipush 10, 15, 0, 0, 10, 0), (15, .if_icmp .ge 17, 18, 32, 0, 0, 0), (18, .aload_n 0, 19, 0, 0, 0, 0), (19, .getfield 9, 22, 5, 0, 0, 0), (22, .iload 5, 24, 5, 0, 0, 0), (24, .iconst 0, 25, 0, 0, 0, 0), (25, .iastore, 26, 0, 0, 0, 0), (26, .iinc 5 1, 29, 5, 0, 1, 0), (29, .goto (-18), 11, 0, 0, 0, 0), (32, .aload_n 0, 33, 0, 0, 0, 0), (33, .getfield 15, 36, 5, 1, 0, 0), (36, .iload 4, 38, 4, 0, 0, 0), (38, .aload_n 1, 39, 1, 0, 0, 0), (39, .getfield 27, 42, 2, 2, 0, 0), (42, .iastore, 43, 0, 0, 0, 0), (43, .aload_n 0, 44, 0, 0, 0, 0), (44, .getfield 9, 47, 5, 0, 0, 0), (47, .iload 4, 49, 4, 0, 0, 0), (49, .aload_n 1, 50, 1, 0, 0, 0), (50, .getfield 27, 53, 2, 2, 0, 0), (53, .iastore, 54, 0, 0, 0, 0), (54, .iconst 0, 55, 0, 0, 0, 0), (55, .istore 5, 57, 5, 0, 0, 0), (57, .iload 5, 59, 5, 0, 0, 0), (59, .sipush 250, 62, 0, 0, 250, 0), (62, .if_icmp .ge 36, 65, 98, 0, 0, 0), (65, .aload_n 0, 66, 0, 0, 0, 0), (66, .getfield 15, 69, 5, 1, 0, 0), (69, .iload_n 3, 70, 3, 0, 0, 0), (70, .iaload, 71, 0, 0, 0, 0), (71, .iconst 1, 72, 0, 0, 1, 0), (72, .iand, 73, 0, 0, 0, 0), (73, .ifCond .eq 6, 76, 79, 0, 0, 0), (76, .iload 5, 78, 5, 0, 0, 0), (78, .ireturn, 79, 0, 0, 0, 0), (79, .aload_n 0, 80, 0, 0, 0, 0), (80, .aload_n 1, 81, 1, 0, 0, 0), (81, .aload_n 2, 82, 2, 0, 0, 0), (82, .iload 5, 84, 5, 0, 0, 0), (84, .invokevirtual 33, 87, 3, 0, 0, 0), (87, .ifCond .ne 5, 90, 92, 0, 0, 0), (90, .iconst (-1), 91, 0, 0, -1, 0), (91, .ireturn, 92, 0, 0, 0, 0), (92, .iinc 5 1, 95, 5, 0, 1, 0), (95, .goto (-38), 57, 0, 0, 0, 0), (98, .iconst (-1), 99, 0, 0, -1, 0), (99, .ireturn, 100, 0, 0, 0, 0)]
abbrev mX5_lengthOf : MD := (yX5_lengthOf, cX5_lengthOf, 6, (some .int), { frames := 2, cells := 0, slots := 0, locals := 53 }, tbX5_lengthOf)
def tbX5_firstStep : List (Nat × En) := [(0, .aload_n 1, 1, 1, 0, 0, 0), (1, .iload 4, 3, 4, 0, 0, 0), (3, .invokevirtual 70, 6, 1, 0, 0, 0), (6, .istore 6, 8, 6, 0, 0, 0), (8, .iconst 0, 9, 0, 0, 0, 0), (9, .istore 7, 11, 7, 0, 0, 0), (11, .iload 7, 13, 7, 0, 0, 0), (13, .aload_n 2, 14, 2, 0, 0, 0), (14, .getfield 37, 17, 7, 4, 0, 0), (17, .if_icmp .ge 57, 20, 74, 0, 0, 0), (20, .aload_n 2, 21, 2, 0, 0, 0), (21, .getfield 51, 24, 7, 0, 0, 0), (24, .iload 7, 26, 7, 0, 0, 0), (26, .iaload, 27, 0, 0, 0, 0), (27, .iload_n 3, 28, 3, 0, 0, 0), (28, .if_icmp .ne 40, 31, 68, 0, 0, 0), (31, .iload 6, 33, 6, 0, 0, 0), (33, .aload_n 1, 34, 1, 0, 0, 0), (34, .getfield 45, 37, 2, 1, 0, 0), (37, .aload_n 2, 38, 2, 0, 0, 0), (38, .getfield 48, 41, 7, 1, 0, 0), (41, .iload 7, 43, 7, 0, 0, 0), (43, .iaload, 44, 0, 0, 0, 0), (44, .iaload, 45, 0, 0, 0, 0), (45, .iand, 46, 0, 0, 0, 0), (46, .aload_n 0, 47, 0, 0, 0, 0), (47, .getfield 9, 50, 5, 0, 0, 0), (50, .iload 5, 52, 5, 0, 0, 0), (52, .aload_n 2, 53, 2, 0, 0, 0), (53, .getfield 42, 56, 7, 2, 0, 0), (56, .iload 7, 58, 7, 0, 0, 0), (58, .iaload, 59, 0, 0, 0, 0), (59, .iadd, 60, 0, 0, 0, 0), (60, .iaload, 61, 0, 0, 0, 0), (61, .iand, 62, 0, 0, 0, 0), (62, .ifCond .eq 6, 65, 68, 0, 0, 0), (65, .iload 7, 67, 7, 0, 0, 0), (67, .ireturn, 68, 0, 0, 0, 0), (68, .iinc 7 1, 71, 7, 0, 1, 0), (71, .goto (-60), 11, 0, 0, 0, 0), (74, .iconst (-1), 75, 0, 0, -1, 0), (75, .ireturn, 76, 0, 0, 0, 0)]
abbrev mX5_firstStep : MD := (yX5_firstStep, cX5_firstStep, 8, (some .int), { frames := 1, cells := 0, slots := 0, locals := 23 }, tbX5_firstStep)
def tbX5_trace : List (Nat × En) := [(0, .aload_n 0, 1, 0, 0, 0, 0), (1, .aload_n 1, 2, 1, 0, 0, 0), (2, .aload_n 2, 3, 2, 0, 0, 0), (3, .iload_n 3, 4, 3, 0, 0, 0), (4, .iload 4, 6, 4, 0, 0, 0), (6, .invokevirtual 58, 9, 4, 0, 0, 0), (9, .istore 5, 11, 5, 0, 0, 0), (11, .iload_n 3, 12, 3, 0, 0, 0), (12, .istore 6, 14, 6, 0, 0, 0), (14, .iconst 1, 15, 0, 0, 1, 0), (15, .istore 7, 17, 7, 0, 0, 0), (17, .iconst 0, 18, 0, 0, 0, 0), (18, .istore 8, 20, 8, 0, 0, 0), (20, .iload 8, 22, 8, 0, 0, 0), (22, .iload 5, 24, 5, 0, 0, 0), (24, .if_icmp .ge 72, 27, 96, 0, 0, 0), (27, .aload_n 0, 28, 0, 0, 0, 0), (28, .aload_n 1, 29, 1, 0, 0, 0), (29, .aload_n 2, 30, 2, 0, 0, 0), (30, .iload 6, 32, 6, 0, 0, 0), (32, .iload 7, 34, 7, 0, 0, 0), (34, .iload 5, 36, 5, 0, 0, 0), (36, .iload 8, 38, 8, 0, 0, 0), (38, .isub, 39, 0, 0, 0, 0), (39, .iconst 1, 40, 0, 0, 1, 0), (40, .isub, 41, 0, 0, 0, 0), (41, .bipush 10, 43, 0, 0, 10, 0), (43, .imul, 44, 0, 0, 0, 0), (44, .invokevirtual 62, 47, 5, 0, 0, 0), (47, .istore 9, 49, 9, 0, 0, 0), (49, .iload 9, 51, 9, 0, 0, 0), (51, .iconst (-1), 52, 0, 0, -1, 0), (52, .if_icmp .ne 5, 55, 57, 0, 0, 0), (55, .iconst (-1), 56, 0, 0, -1, 0), (56, .ireturn, 57, 0, 0, 0, 0), (57, .aload_n 0, 58, 0, 0, 0, 0), (58, .getfield 18, 61, 5, 2, 0, 0), (61, .iload 8, 63, 8, 0, 0, 0), (63, .iload 9, 65, 9, 0, 0, 0), (65, .iastore, 66, 0, 0, 0, 0), (66, .aload_n 1, 67, 1, 0, 0, 0), (67, .iload 7, 69, 7, 0, 0, 0), (69, .aload_n 2, 70, 2, 0, 0, 0), (70, .getfield 48, 73, 7, 1, 0, 0), (73, .iload 9, 75, 9, 0, 0, 0), (75, .iaload, 76, 0, 0, 0, 0), (76, .invokevirtual 66, 79, 2, 0, 0, 0), (79, .istore 7, 81, 7, 0, 0, 0), (81, .aload_n 2, 82, 2, 0, 0, 0), (82, .getfield 42, 85, 7, 2, 0, 0), (85, .iload 9, 87, 9, 0, 0, 0), (87, .iaload, 88, 0, 0, 0, 0), (88, .istore 6, 90, 6, 0, 0, 0), (90, .iinc 8 1, 93, 8, 0, 1, 0), (93, .goto (-73), 20, 0, 0, 0, 0), (96, .iload 5, 98, 5, 0, 0, 0), (98, .ireturn, 99, 0, 0, 0, 0)]
abbrev mX5_trace : MD := (yX5_trace, cX5_trace, 10, (some .int), { frames := 3, cells := 0, slots := 0, locals := 78 }, tbX5_trace)
def tbX6_init : List (Nat × En) := [(0, .aload_n 0, 1, 0, 0, 0, 0), (1, .invokespecial 3, 4, 0, 0, 0, 0), (4, .aload_n 0, 5, 0, 0, 0, 0), (5, .bipush 10, 7, 0, 0, 10, 0), (7, .newarray .int, 9, 0, 0, 0, 0), (9, .putfield 9, 12, 6, 0, 0, 0), (12, .aload_n 0, 13, 0, 0, 0, 0), (13, .iconst (-1), 14, 0, 0, -1, 0), (14, .putfield 15, 17, 6, 1, 0, 0), (17, .aload_n 0, 18, 0, 0, 0, 0), (18, .iconst 0, 19, 0, 0, 0, 0), (19, .putfield 19, 22, 6, 2, 0, 0), (22, .aload_n 0, 23, 0, 0, 0, 0), (23, .iconst 0, 24, 0, 0, 0, 0), (24, .putfield 22, 27, 6, 3, 0, 0), (27, .return_, 28, 0, 0, 0, 0)]
abbrev mX6_init : MD := (yX6_init, cX6_init, 1, none, { frames := 1, cells := 1, slots := 10, locals := 20 }, tbX6_init)
def tbJ6_bitCount_0f7a4 : List (Nat × En) := [(0, .iload_n 0, 1, 0, 0, 0, 0), (1, .iload_n 0, 2, 0, 0, 0, 0), (2, .iconst 1, 3, 0, 0, 1, 0), (3, .iushr, 4, 0, 0, 0, 0), (4, .ldc_w 265, 7, 0, 0, 1431655765, 0), (7, .iand, 8, 0, 0, 0, 0), (8, .isub, 9, 0, 0, 0, 0), (9, .istore_n 0, 10, 0, 0, 0, 0), (10, .iload_n 0, 11, 0, 0, 0, 0), (11, .ldc_w 266, 14, 0, 0, 858993459, 0), (14, .iand, 15, 0, 0, 0, 0), (15, .iload_n 0, 16, 0, 0, 0, 0), (16, .iconst 2, 17, 0, 0, 2, 0), (17, .iushr, 18, 0, 0, 0, 0), (18, .ldc_w 266, 21, 0, 0, 858993459, 0), (21, .iand, 22, 0, 0, 0, 0), (22, .iadd, 23, 0, 0, 0, 0), (23, .istore_n 0, 24, 0, 0, 0, 0), (24, .iload_n 0, 25, 0, 0, 0, 0), (25, .iload_n 0, 26, 0, 0, 0, 0), (26, .iconst 4, 27, 0, 0, 4, 0), (27, .iushr, 28, 0, 0, 0, 0), (28, .iadd, 29, 0, 0, 0, 0), (29, .ldc_w 267, 32, 0, 0, 252645135, 0), (32, .iand, 33, 0, 0, 0, 0), (33, .istore_n 0, 34, 0, 0, 0, 0), (34, .iload_n 0, 35, 0, 0, 0, 0), (35, .iload_n 0, 36, 0, 0, 0, 0), (36, .bipush 8, 38, 0, 0, 8, 0), (38, .iushr, 39, 0, 0, 0, 0), (39, .iadd, 40, 0, 0, 0, 0), (40, .istore_n 0, 41, 0, 0, 0, 0), (41, .iload_n 0, 42, 0, 0, 0, 0), (42, .iload_n 0, 43, 0, 0, 0, 0), (43, .bipush 16, 45, 0, 0, 16, 0), (45, .iushr, 46, 0, 0, 0, 0), (46, .iadd, 47, 0, 0, 0, 0), (47, .istore_n 0, 48, 0, 0, 0, 0), (48, .iload_n 0, 49, 0, 0, 0, 0), (49, .bipush 63, 51, 0, 0, 63, 0), (51, .iand, 52, 0, 0, 0, 0), (52, .ireturn, 53, 0, 0, 0, 0)]
abbrev mJ6_bitCount_0f7a4 : MD := (yJ6_bitCount_0f7a4, cJ6_bitCount_0f7a4, 1, (some .int), { frames := 0, cells := 0, slots := 0, locals := 0 }, tbJ6_bitCount_0f7a4)
def tbX6_size : List (Nat × En) := [(0, .iconst 0, 1, 0, 0, 0, 0), (1, .istore_n 1, 2, 1, 0, 0, 0), (2, .iconst 0, 3, 0, 0, 0, 0), (3, .istore_n 2, 4, 2, 0, 0, 0), (4, .iload_n 2, 5, 2, 0, 0, 0), (5, .bipush 10, 7, 0, 0, 10, 0), (7, .if_icmp .ge 21, 10, 28, 0, 0, 0), (10, .iload_n 1, 11, 1, 0, 0, 0), (11, .aload_n 0, 12, 0, 0, 0, 0), (12, .getfield 9, 15, 6, 0, 0, 0), (15, .iload_n 2, 16, 2, 0, 0, 0), (16, .iaload, 17, 0, 0, 0, 0), (17, .invokestatic 25, 20, 1, 0, 0, 0), (20, .iadd, 21, 0, 0, 0, 0), (21, .istore_n 1, 22, 1, 0, 0, 0), (22, .iinc 2 1, 25, 2, 0, 1, 0), (25, .goto (-21), 4, 0, 0, 0, 0), (28, .iload_n 1, 29, 1, 0, 0, 0), (29, .ireturn, 30, 0, 0, 0, 0)]
abbrev mX6_size : MD := (yX6_size, cX6_size, 3, (some .int), { frames := 1, cells := 0, slots := 0, locals := 20 }, tbX6_size)
def tbX7_init : List (Nat × En) := [(0, .aload_n 0, 1, 0, 0, 0, 0), (1, .invokespecial 3, 4, 0, 0, 0, 0), (4, .aload_n 0, 5, 0, 0, 0, 0), (5, .bipush 60, 7, 0, 0, 60, 0), (7, .newarray .int, 9, 0, 0, 0, 0), (9, .putfield 9, 12, 7, 0, 0, 0), (12, .aload_n 0, 13, 0, 0, 0, 0), (13, .bipush 60, 15, 0, 0, 60, 0), (15, .newarray .int, 17, 0, 0, 0, 0), (17, .putfield 15, 20, 7, 1, 0, 0), (20, .aload_n 0, 21, 0, 0, 0, 0), (21, .bipush 60, 23, 0, 0, 60, 0), (23, .newarray .int, 25, 0, 0, 0, 0), (25, .putfield 18, 28, 7, 2, 0, 0), (28, .aload_n 0, 29, 0, 0, 0, 0), (29, .bipush 60, 31, 0, 0, 60, 0), (31, .newarray .int, 33, 0, 0, 0, 0), (33, .putfield 21, 36, 7, 3, 0, 0), (36, .aload_n 0, 37, 0, 0, 0, 0), (37, .iconst 0, 38, 0, 0, 0, 0), (38, .putfield 24, 41, 7, 4, 0, 0), (41, .return_, 42, 0, 0, 0, 0)]
abbrev mX7_init : MD := (yX7_init, cX7_init, 1, none, { frames := 1, cells := 4, slots := 240, locals := 20 }, tbX7_init)
def tbX9_init : List (Nat × En) := [(0, .aload_n 0, 1, 0, 0, 0, 0), (1, .invokespecial 3, 4, 0, 0, 0, 0), (4, .aload_n 0, 5, 0, 0, 0, 0), (5, .new 9, 8, 8, 0, 0, 0), (8, .dup, 9, 0, 0, 0, 0), (9, .invokespecial 11, 12, 0, 1, 0, 0), (12, .putfield 12, 15, 9, 0, 0, 0), (15, .aload_n 0, 16, 0, 0, 0, 0), (16, .sipush 3200, 19, 0, 0, 3200, 0), (19, .newarray .int, 21, 0, 0, 0, 0), (21, .putfield 18, 24, 9, 1, 0, 0), (24, .aload_n 0, 25, 0, 0, 0, 0), (25, .sipush 4000, 28, 0, 0, 4000, 0), (28, .newarray .int, 30, 0, 0, 0, 0), (30, .putfield 22, 33, 9, 2, 0, 0), (33, .aload_n 0, 34, 0, 0, 0, 0), (34, .sipush 4000, 37, 0, 0, 4000, 0), (37, .newarray .int, 39, 0, 0, 0, 0), (39, .putfield 25, 42, 9, 3, 0, 0), (42, .return_, 43, 0, 0, 0, 0)]
abbrev mX9_init : MD := (yX9_init, cX9_init, 1, none, { frames := 2, cells := 6, slots := 12628, locals := 40 }, tbX9_init)
def tbX9_stateOf : List (Nat × En) := [(0, .aload_n 0, 1, 0, 0, 0, 0), (1, .getfield 12, 4, 9, 0, 0, 0), (4, .getfield 44, 7, 8, 2, 0, 0), (7, .istore_n 2, 8, 2, 0, 0, 0), (8, .aload_n 0, 9, 0, 0, 0, 0), (9, .getfield 12, 12, 9, 0, 0, 0), (12, .iload_n 1, 13, 1, 0, 0, 0), (13, .i2l, 14, 0, 0, 0, 0), (14, .invokevirtual 88, 17, 1, 0, 0, 0), (17, .istore_n 3, 18, 3, 0, 0, 0), (18, .iload_n 3, 19, 3, 0, 0, 0), (19, .iload_n 2, 20, 2, 0, 0, 0), (20, .if_icmp .ne 74, 23, 94, 0, 0, 0), (23, .iconst 0, 24, 0, 0, 0, 0), (24, .istore 4, 26, 4, 0, 0, 0), (26, .iload 4, 28, 4, 0, 0, 0), (28, .bipush 10, 30, 0, 0, 10, 0), (30, .if_icmp .ge 35, 33, 65, 0, 0, 0), (33, .aload_n 0, 34, 0, 0, 0, 0), (34, .getfield 22, 37, 9, 2, 0, 0), (37, .iload_n 3, 38, 3, 0, 0, 0), (38, .bipush 10, 40, 0, 0, 10, 0), (40, .imul, 41, 0, 0, 0, 0), (41, .iload 4, 43, 4, 0, 0, 0), (43, .iadd, 44, 0, 0, 0, 0), (44, .iconst 0, 45, 0, 0, 0, 0), (45, .iastore, 46, 0, 0, 0, 0), (46, .aload_n 0, 47, 0, 0, 0, 0), (47, .getfield 25, 50, 9, 3, 0, 0), (50, .iload_n 3, 51, 3, 0, 0, 0), (51, .bipush 10, 53, 0, 0, 10, 0), (53, .imul, 54, 0, 0, 0, 0), (54, .iload 4, 56, 4, 0, 0, 0), (56, .iadd, 57, 0, 0, 0, 0), (57, .iconst 0, 58, 0, 0, 0, 0), (58, .iastore, 59, 0, 0, 0, 0), (59, .iinc 4 1, 62, 4, 0, 1, 0), (62, .goto (-36), 26, 0, 0, 0, 0), (65, .iconst 0, 66, 0, 0, 0, 0), (66, .istore 4, 68, 4, 0, 0, 0), (68, .iload 4, 70, 4, 0, 0, 0), (70, .bipush 8, 72, 0, 0, 8, 0), (72, .if_icmp .ge 22, 75, 94, 0, 0, 0), (75, .aload_n 0, 76, 0, 0, 0, 0), (76, .getfield 18, 79, 9, 1, 0, 0), (79, .iload_n 3, 80, 3, 0, 0, 0), (80, .bipush 8, 82, 0, 0, 8, 0), (82, .imul, 83, 0, 0, 0, 0), (83, .iload 4, 85, 4, 0, 0, 0), (85, .iadd, 86, 0, 0, 0, 0), (86, .iconst (-1), 87, 0, 0, -1, 0), (87, .iastore, 88, 0, 0, 0, 0), (88, .iinc 4 1, 91, 4, 0, 1, 0), (91, .goto (-23), 68, 0, 0, 0, 0), (94, .iload_n 3, 95, 3, 0, 0, 0), (95, .ireturn, 96, 0, 0, 0, 0)]
abbrev mX9_stateOf : MD := (yX9_stateOf, cX9_stateOf, 5, (some .int), { frames := 1, cells := 0, slots := 0, locals := 25 }, tbX9_stateOf)
def tbX9_stateBehind : List (Nat × En) := [(0, .iload_n 2, 1, 2, 0, 0, 0), (1, .bipush 8, 3, 0, 0, 8, 0), (3, .imul, 4, 0, 0, 0, 0), (4, .iload_n 3, 5, 3, 0, 0, 0), (5, .iadd, 6, 0, 0, 0, 0), (6, .istore 4, 8, 4, 0, 0, 0), (8, .aload_n 0, 9, 0, 0, 0, 0), (9, .getfield 18, 12, 9, 1, 0, 0), (12, .iload 4, 14, 4, 0, 0, 0), (14, .iaload, 15, 0, 0, 0, 0), (15, .iconst (-1), 16, 0, 0, -1, 0), (16, .if_icmp .ne 29, 19, 45, 0, 0, 0), (19, .aload_n 0, 20, 0, 0, 0, 0), (20, .getfield 18, 23, 9, 1, 0, 0), (23, .iload 4, 25, 4, 0, 0, 0), (25, .aload_n 0, 26, 0, 0, 0, 0), (26, .aload_n 1, 27, 1, 0, 0, 0), (27, .aload_n 0, 28, 0, 0, 0, 0), (28, .getfield 12, 31, 9, 0, 0, 0), (31, .getfield 48, 34, 8, 0, 0, 0), (34, .iload_n 2, 35, 2, 0, 0, 0), (35, .laload, 36, 0, 0, 0, 0), (36, .l2i, 37, 0, 0, 0, 0), (37, .iload_n 3, 38, 3, 0, 0, 0), (38, .invokevirtual 85, 41, 2, 0, 0, 0), (41, .invokevirtual 32, 44, 1, 0, 0, 0), (44, .iastore, 45, 0, 0, 0, 0), (45, .aload_n 0, 46, 0, 0, 0, 0), (46, .getfield 18, 49, 9, 1, 0, 0), (49, .iload 4, 51, 4, 0, 0, 0), (51, .iaload, 52, 0, 0, 0, 0), (52, .ireturn, 53, 0, 0, 0, 0)]
abbrev mX9_stateBehind : MD := (yX9_stateBehind, cX9_stateBehind, 5, (some .int), { frames := 2, cells := 0, slots := 0, locals := 49 }, tbX9_stateBehind)
def tbX9_advancesFrom : List (Nat × En) := [(0, .iconst 0, 1, 0, 0, 0, 0), (1, .istore 4, 3, 4, 0, 0, 0), (3, .iload 4, 5, 4, 0, 0, 0), (5, .aload_n 2, 6, 2, 0, 0, 0), (6, .getfield 69, 9, 7, 4, 0, 0), (9, .if_icmp .ge 93, 12, 102, 0, 0, 0), (12, .aload_n 0, 13, 0, 0, 0, 0), (13, .getfield 22, 16, 9, 2, 0, 0), (16, .iload_n 3, 17, 3, 0, 0, 0), (17, .bipush 10, 19, 0, 0, 10, 0), (19, .imul, 20, 0, 0, 0, 0), (20, .aload_n 2, 21, 2, 0, 0, 0), (21, .getfield 72, 24, 7, 0, 0, 0), (24, .iload 4, 26, 4, 0, 0, 0), (26, .iaload, 27, 0, 0, 0, 0), (27, .iadd, 28, 0, 0, 0, 0), (28, .iaload, 29, 0, 0, 0, 0), (29, .istore 5, 31, 5, 0, 0, 0), (31, .iload 5, 33, 5, 0, 0, 0), (33, .ifCond .eq 63, 36, 96, 0, 0, 0), (36, .aload_n 0, 37, 0, 0, 0, 0), (37, .aload_n 1, 38, 1, 0, 0, 0), (38, .iload_n 3, 39, 3, 0, 0, 0), (39, .aload_n 2, 40, 2, 0, 0, 0), (40, .getfield 75, 43, 7, 1, 0, 0), (43, .iload 4, 45, 4, 0, 0, 0), (45, .iaload, 46, 0, 0, 0, 0), (46, .invokevirtual 78, 49, 3, 0, 0, 0), (49, .istore 6, 51, 6, 0, 0, 0), (51, .iload 6, 53, 6, 0, 0, 0), (53, .iconst (-1), 54, 0, 0, -1, 0), (54, .if_icmp .ne 5, 57, 59, 0, 0, 0), (57, .iconst 0, 58, 0, 0, 0, 0), (58, .ireturn, 59, 0, 0, 0, 0), (59, .iload 6, 61, 6, 0, 0, 0), (61, .bipush 10, 63, 0, 0, 10, 0), (63, .imul, 64, 0, 0, 0, 0), (64, .aload_n 2, 65, 2, 0, 0, 0), (65, .getfield 82, 68, 7, 2, 0, 0), (68, .iload 4, 70, 4, 0, 0, 0), (70, .iaload, 71, 0, 0, 0, 0), (71, .iadd, 72, 0, 0, 0, 0), (72, .istore 7, 74, 7, 0, 0, 0), (74, .aload_n 0, 75, 0, 0, 0, 0), (75, .getfield 25, 78, 9, 3, 0, 0), (78, .iload 7, 80, 7, 0, 0, 0), (80, .ldc 58, 82, 0, 0, 1000000001, 0), (82, .aload_n 0, 83, 0, 0, 0, 0), (83, .getfield 25, 86, 9, 3, 0, 0), (86, .iload 7, 88, 7, 0, 0, 0), (88, .iaload, 89, 0, 0, 0, 0), (89, .iload 5, 91, 5, 0, 0, 0), (91, .iadd, 92, 0, 0, 0, 0), (92, .invokestatic 59, 95, 2, 0, 0, 0), (95, .iastore, 96, 0, 0, 0, 0), (96, .iinc 4 1, 99, 4, 0, 1, 0), (99, .goto (-96), 3, 0, 0, 0, 0), (102, .iconst 1, 103, 0, 0, 1, 0), (103, .ireturn, 104, 0, 0, 0, 0)]
abbrev mX9_advancesFrom : MD := (yX9_advancesFrom, cX9_advancesFrom, 8, (some .boolean), { frames := 3, cells := 0, slots := 0, locals := 73 }, tbX9_advancesFrom)
def tbX9_advances : List (Nat × En) := [(0, .aload_n 0, 1, 0, 0, 0, 0), (1, .getfield 12, 4, 9, 0, 0, 0), (4, .getfield 44, 7, 8, 2, 0, 0), (7, .istore_n 3, 8, 3, 0, 0, 0), (8, .iconst 0, 9, 0, 0, 0, 0), (9, .istore 4, 11, 4, 0, 0, 0), (11, .iload 4, 13, 4, 0, 0, 0), (13, .iload_n 3, 14, 3, 0, 0, 0), (14, .if_icmp .ge 67, 17, 81, 0, 0, 0), (17, .aload_n 0, 18, 0, 0, 0, 0), (18, .getfield 12, 21, 9, 0, 0, 0), (21, .getfield 48, 24, 8, 0, 0, 0), (24, .iload 4, 26, 4, 0, 0, 0), (26, .laload, 27, 0, 0, 0, 0), (27, .lconst 0, 28, 0, 0, 0, 0), (28, .lcmp, 29, 0, 0, 0, 0), (29, .ifCond .eq 16, 32, 45, 0, 0, 0), (32, .aload_n 0, 33, 0, 0, 0, 0), (33, .aload_n 1, 34, 1, 0, 0, 0), (34, .aload_n 2, 35, 2, 0, 0, 0), (35, .iload 4, 37, 4, 0, 0, 0), (37, .invokevirtual 65, 40, 3, 0, 0, 0), (40, .ifCond .ne 5, 43, 45, 0, 0, 0), (43, .iconst 0, 44, 0, 0, 0, 0), (44, .ireturn, 45, 0, 0, 0, 0), (45, .iconst 0, 46, 0, 0, 0, 0), (46, .istore 5, 48, 5, 0, 0, 0), (48, .iload 5, 50, 5, 0, 0, 0), (50, .bipush 10, 52, 0, 0, 10, 0), (52, .if_icmp .ge 23, 55, 75, 0, 0, 0), (55, .aload_n 0, 56, 0, 0, 0, 0), (56, .getfield 22, 59, 9, 2, 0, 0), (59, .iload 4, 61, 4, 0, 0, 0), (61, .bipush 10, 63, 0, 0, 10, 0), (63, .imul, 64, 0, 0, 0, 0), (64, .iload 5, 66, 5, 0, 0, 0), (66, .iadd, 67, 0, 0, 0, 0), (67, .iconst 0, 68, 0, 0, 0, 0), (68, .iastore, 69, 0, 0, 0, 0), (69, .iinc 5 1, 72, 5, 0, 1, 0), (72, .goto (-24), 48, 0, 0, 0, 0), (75, .iinc 4 1, 78, 4, 0, 1, 0), (78, .goto (-67), 11, 0, 0, 0, 0), (81, .aload_n 0, 82, 0, 0, 0, 0), (82, .getfield 22, 85, 9, 2, 0, 0), (85, .astore 4, 87, 4, 0, 0, 0), (87, .aload_n 0, 88, 0, 0, 0, 0), (88, .aload_n 0, 89, 0, 0, 0, 0), (89, .getfield 25, 92, 9, 3, 0, 0), (92, .putfield 22, 95, 9, 2, 0, 0), (95, .aload_n 0, 96, 0, 0, 0, 0), (96, .aload 4, 98, 4, 0, 0, 0), (98, .putfield 25, 101, 9, 3, 0, 0), (101, .iconst 1, 102, 0, 0, 1, 0), (102, .ireturn, 103, 0, 0, 0, 0)]
abbrev mX9_advances : MD := (yX9_advances, cX9_advances, 6, (some .boolean), { frames := 4, cells := 0, slots := 0, locals := 100 }, tbX9_advances)
def tbX9_total : List (Nat × En) := [(0, .iconst 0, 1, 0, 0, 0, 0), (1, .istore_n 3, 2, 3, 0, 0, 0), (2, .iconst 0, 3, 0, 0, 0, 0), (3, .istore 4, 5, 4, 0, 0, 0), (5, .iload 4, 7, 4, 0, 0, 0), (7, .aload_n 0, 8, 0, 0, 0, 0), (8, .getfield 12, 11, 9, 0, 0, 0), (11, .getfield 44, 14, 8, 2, 0, 0), (14, .if_icmp .ge 47, 17, 61, 0, 0, 0), (17, .aload_n 1, 18, 1, 0, 0, 0), (18, .aload_n 0, 19, 0, 0, 0, 0), (19, .getfield 12, 22, 9, 0, 0, 0), (22, .getfield 48, 25, 8, 0, 0, 0), (25, .iload 4, 27, 4, 0, 0, 0), (27, .laload, 28, 0, 0, 0, 0), (28, .l2i, 29, 0, 0, 0, 0), (29, .invokevirtual 52, 32, 1, 0, 0, 0), (32, .ifCond .eq 23, 35, 55, 0, 0, 0), (35, .ldc 58, 37, 0, 0, 1000000001, 0), (37, .iload_n 3, 38, 3, 0, 0, 0), (38, .aload_n 0, 39, 0, 0, 0, 0), (39, .getfield 22, 42, 9, 2, 0, 0), (42, .iload 4, 44, 4, 0, 0, 0), (44, .bipush 10, 46, 0, 0, 10, 0), (46, .imul, 47, 0, 0, 0, 0), (47, .iload_n 2, 48, 2, 0, 0, 0), (48, .iadd, 49, 0, 0, 0, 0), (49, .iaload, 50, 0, 0, 0, 0), (50, .iadd, 51, 0, 0, 0, 0), (51, .invokestatic 59, 54, 2, 0, 0, 0), (54, .istore_n 3, 55, 3, 0, 0, 0), (55, .iinc 4 1, 58, 4, 0, 1, 0), (58, .goto (-53), 5, 0, 0, 0, 0), (61, .iload_n 3, 62, 3, 0, 0, 0), (62, .ldc 58, 64, 0, 0, 1000000001, 0), (64, .if_icmp .ne 8, 67, 72, 0, 0, 0), (67, .bipush (-4), 69, 0, 0, -4, 0), (69, .goto 4, 73, 0, 0, 0, 0), (72, .iload_n 3, 73, 3, 0, 0, 0), (73, .ireturn, 74, 0, 0, 0, 0)]
abbrev mX9_total : MD := (yX9_total, cX9_total, 5, (some .int), { frames := 1, cells := 0, slots := 0, locals := 21 }, tbX9_total)
def tbX9_routesOf : List (Nat × En) := [(0, .aload_n 0, 1, 0, 0, 0, 0), (1, .getfield 12, 4, 9, 0, 0, 0), (4, .sipush 400, 7, 0, 0, 400, 0), (7, .invokevirtual 28, 10, 1, 0, 0, 0), (10, .aload_n 0, 11, 0, 0, 0, 0), (11, .iconst 1, 12, 0, 0, 1, 0), (12, .invokevirtual 32, 15, 1, 0, 0, 0), (15, .istore 6, 17, 6, 0, 0, 0), (17, .iload 6, 19, 6, 0, 0, 0), (19, .iconst (-1), 20, 0, 0, -1, 0), (20, .if_icmp .ne 6, 23, 26, 0, 0, 0), (23, .bipush (-4), 25, 0, 0, -4, 0), (25, .ireturn, 26, 0, 0, 0, 0), (26, .aload_n 0, 27, 0, 0, 0, 0), (27, .getfield 22, 30, 9, 2, 0, 0), (30, .iload 6, 32, 6, 0, 0, 0), (32, .bipush 10, 34, 0, 0, 10, 0), (34, .imul, 35, 0, 0, 0, 0), (35, .iload_n 3, 36, 3, 0, 0, 0), (36, .iadd, 37, 0, 0, 0, 0), (37, .iconst 1, 38, 0, 0, 1, 0), (38, .iastore, 39, 0, 0, 0, 0), (39, .iconst 0, 40, 0, 0, 0, 0), (40, .istore 7, 42, 7, 0, 0, 0), (42, .iload 7, 44, 7, 0, 0, 0), (44, .iload 5, 46, 5, 0, 0, 0), (46, .if_icmp .ge 21, 49, 67, 0, 0, 0), (49, .aload_n 0, 50, 0, 0, 0, 0), (50, .aload_n 1, 51, 1, 0, 0, 0), (51, .aload_n 2, 52, 2, 0, 0, 0), (52, .invokevirtual 36, 55, 2, 0, 0, 0), (55, .ifCond .ne 6, 58, 61, 0, 0, 0), (58, .bipush (-4), 60, 0, 0, -4, 0), (60, .ireturn, 61, 0, 0, 0, 0), (61, .iinc 7 1, 64, 7, 0, 1, 0), (64, .goto (-22), 42, 0, 0, 0, 0), (67, .aload_n 0, 68, 0, 0, 0, 0), (68, .aload_n 1, 69, 1, 0, 0, 0), (69, .iload 4, 71, 4, 0, 0, 0), (71, .invokevirtual 40, 74, 2, 0, 0, 0), (74, .ireturn, 75, 0, 0, 0, 0)]
abbrev mX9_routesOf : MD := (yX9_routesOf, cX9_routesOf, 8, (some .int), { frames := 5, cells := 0, slots := 0, locals := 125 }, tbX9_routesOf)
def tbX10_init : List (Nat × En) := [(0, .aload_n 0, 1, 0, 0, 0, 0), (1, .invokespecial 3, 4, 0, 0, 0, 0), (4, .aload_n 0, 5, 0, 0, 0, 0), (5, .new 9, 8, 1, 0, 0, 0), (8, .dup, 9, 0, 0, 0, 0), (9, .invokespecial 11, 12, 0, 1, 0, 0), (12, .putfield 12, 15, 10, 0, 0, 0), (15, .aload_n 0, 16, 0, 0, 0, 0), (16, .new 16, 19, 7, 0, 0, 0), (19, .dup, 20, 0, 0, 0, 0), (20, .invokespecial 18, 23, 0, 1, 0, 0), (23, .putfield 19, 26, 10, 1, 0, 0), (26, .aload_n 0, 27, 0, 0, 0, 0), (27, .new 16, 30, 7, 0, 0, 0), (30, .dup, 31, 0, 0, 0, 0), (31, .invokespecial 18, 34, 0, 1, 0, 0), (34, .putfield 23, 37, 10, 2, 0, 0), (37, .aload_n 0, 38, 0, 0, 0, 0), (38, .new 16, 41, 7, 0, 0, 0), (41, .dup, 42, 0, 0, 0, 0), (42, .invokespecial 18, 45, 0, 1, 0, 0), (45, .putfield 26, 48, 10, 3, 0, 0), (48, .aload_n 0, 49, 0, 0, 0, 0), (49, .bipush 80, 51, 0, 0, 80, 0), (51, .newarray .int, 53, 0, 0, 0, 0), (53, .putfield 29, 56, 10, 4, 0, 0), (56, .aload_n 0, 57, 0, 0, 0, 0), (57, .iconst 0, 58, 0, 0, 0, 0), (58, .putfield 33, 61, 10, 5, 0, 0), (61, .aload_n 0, 62, 0, 0, 0, 0), (62, .iconst 4, 63, 0, 0, 4, 0), (63, .anewarray 37, 66, 0, 0, 0, 0), (66, .putfield 39, 69, 10, 6, 0, 0), (69, .aload_n 0, 70, 0, 0, 0, 0), (70, .new 43, 73, 4, 0, 0, 0), (73, .dup, 74, 0, 0, 0, 0), (74, .invokespecial 45, 77, 0, 1, 0, 0), (77, .putfield 46, 80, 10, 7, 0, 0), (80, .aload_n 0, 81, 0, 0, 0, 0), (81, .new 50, 84, 3, 0, 0, 0), (84, .dup, 85, 0, 0, 0, 0), (85, .invokespecial 52, 88, 0, 1, 0, 0), (88, .putfield 53, 91, 10, 8, 0, 0), (91, .aload_n 0, 92, 0, 0, 0, 0), (92, .new 57, 95, 5, 0, 0, 0), (95, .dup, 96, 0, 0, 0, 0), (96, .invokespecial 59, 99, 0, 1, 0, 0), (99, .putfield 60, 102, 10, 9, 0, 0), (102, .aload_n 0, 103, 0, 0, 0, 0), (103, .new 64, 106, 9, 0, 0, 0), (106, .dup, 107, 0, 0, 0, 0), (107, .invokespecial 66, 110, 0, 1, 0, 0), (110, .putfield 67, 113, 10, 10, 0, 0), (113, .aload_n 0, 114, 0, 0, 0, 0), (114, .new 71, 117, 0, 0, 0, 0), (117, .dup, 118, 0, 0, 0, 0), (118, .invokespecial 73, 121, 0, 1, 0, 0), (121, .putfield 74, 124, 10, 11, 0, 0), (124, .aload_n 0, 125, 0, 0, 0, 0), (125, .new 78, 128, 6, 0, 0, 0), (128, .dup, 129, 0, 0, 0, 0), (129, .invokespecial 80, 132, 0, 1, 0, 0), (132, .putfield 81, 135, 10, 12, 0, 0), (135, .aload_n 0, 136, 0, 0, 0, 0), (136, .iconst 0, 137, 0, 0, 0, 0), (137, .putfield 85, 140, 10, 13, 0, 0), (140, .aload_n 0, 141, 0, 0, 0, 0), (141, .iconst 0, 142, 0, 0, 0, 0), (142, .putfield 88, 145, 10, 14, 0, 0), (145, .aload_n 0, 146, 0, 0, 0, 0), (146, .iconst 0, 147, 0, 0, 0, 0), (147, .putfield 91, 150, 10, 15, 0, 0), (150, .iconst 0, 151, 0, 0, 0, 0), (151, .istore_n 1, 152, 1, 0, 0, 0), (152, .iload_n 1, 153, 1, 0, 0, 0), (153, .iconst 4, 154, 0, 0, 4, 0), (154, .if_icmp .ge 22, 157, 176, 0, 0, 0), (157, .aload_n 0, 158, 0, 0, 0, 0), (158, .getfield 39, 161, 10, 6, 0, 0), (161, .iload_n 1, 162, 1, 0, 0, 0), (162, .new 37, 165, 2, 0, 0, 0), (165, .dup, 166, 0, 0, 0, 0), (166, .invokespecial 94, 169, 0, 1, 0, 0), (169, .aastore, 170, 0, 0, 0, 0), (170, .iinc 1 1, 173, 1, 0, 1, 0), (173, .goto (-21), 152, 0, 0, 0, 0), (176, .iconst 0, 177, 0, 0, 0, 0), (177, .istore_n 1, 178, 1, 0, 0, 0), (178, .iload_n 1, 179, 1, 0, 0, 0), (179, .bipush 8, 181, 0, 0, 8, 0), (181, .if_icmp .ge 20, 184, 201, 0, 0, 0), (184, .aload_n 0, 185, 0, 0, 0, 0), (185, .getfield 26, 188, 10, 3, 0, 0), (188, .iconst 0, 189, 0, 0, 0, 0), (189, .iload_n 1, 190, 1, 0, 0, 0), (190, .iconst 0, 191, 0, 0, 0, 0), (191, .iload_n 1, 192, 1, 0, 0, 0), (192, .invokevirtual 95, 195, 4, 0, 0, 0), (195, .iinc 1 1, 198, 1, 0, 1, 0), (198, .goto (-20), 178, 0, 0, 0, 0), (201, .return_, 202, 0, 0, 0, 0)]
abbrev mX10_init : MD := (yX10_init, cX10_init, 2, none, { frames := 3, cells := 62, slots := 18317, locals := 60 }, tbX10_init)
def tbX10_isVertex : List (Nat × En) := [(0, .iload_n 0, 1, 0, 0, 0, 0), (1, .ifCond .lt 13, 4, 14, 0, 0, 0), (4, .iload_n 0, 5, 0, 0, 0, 0), (5, .bipush 10, 7, 0, 0, 10, 0), (7, .if_icmp .ge 7, 10, 14, 0, 0, 0), (10, .iconst 1, 11, 0, 0, 1, 0), (11, .goto 4, 15, 0, 0, 0, 0), (14, .iconst 0, 15, 0, 0, 0, 0), (15, .ireturn, 16, 0, 0, 0, 0)]
abbrev mX10_isVertex : MD := (yX10_isVertex, cX10_isVertex, 1, (some .boolean), { frames := 0, cells := 0, slots := 0, locals := 0 }, tbX10_isVertex)
def tbX10_refuse : List (Nat × En) := [(0, .iload_n 1, 1, 1, 0, 0, 0), (1, .bipush (-2), 3, 0, 0, -2, 0), (3, .if_icmp .ne 16, 6, 19, 0, 0, 0), (6, .aload_n 0, 7, 0, 0, 0, 0), (7, .dup, 8, 0, 0, 0, 0), (8, .getfield 85, 11, 10, 13, 0, 0), (11, .iconst 1, 12, 0, 0, 1, 0), (12, .iadd, 13, 0, 0, 0, 0), (13, .putfield 85, 16, 10, 13, 0, 0), (16, .goto 32, 48, 0, 0, 0, 0), (19, .iload_n 1, 20, 1, 0, 0, 0), (20, .bipush (-3), 22, 0, 0, -3, 0), (22, .if_icmp .ne 16, 25, 38, 0, 0, 0), (25, .aload_n 0, 26, 0, 0, 0, 0), (26, .dup, 27, 0, 0, 0, 0), (27, .getfield 88, 30, 10, 14, 0, 0), (30, .iconst 1, 31, 0, 0, 1, 0), (31, .iadd, 32, 0, 0, 0, 0), (32, .putfield 88, 35, 10, 14, 0, 0), (35, .goto 13, 48, 0, 0, 0, 0), (38, .aload_n 0, 39, 0, 0, 0, 0), (39, .dup, 40, 0, 0, 0, 0), (40, .getfield 91, 43, 10, 15, 0, 0), (43, .iconst 1, 44, 0, 0, 1, 0), (44, .iadd, 45, 0, 0, 0, 0), (45, .putfield 91, 48, 10, 15, 0, 0), (48, .iload_n 1, 49, 1, 0, 0, 0), (49, .ireturn, 50, 0, 0, 0, 0)]
abbrev mX10_refuse : MD := (yX10_refuse, cX10_refuse, 2, (some .int), { frames := 0, cells := 0, slots := 0, locals := 0 }, tbX10_refuse)
def tbX10_keepAnswers : List (Nat × En) := [(0, .iconst 0, 1, 0, 0, 0, 0), (1, .istore_n 1, 2, 1, 0, 0, 0), (2, .iload_n 1, 3, 1, 0, 0, 0), (3, .bipush 10, 5, 0, 0, 10, 0), (5, .if_icmp .ge 57, 8, 62, 0, 0, 0), (8, .aload_n 0, 9, 0, 0, 0, 0), (9, .getfield 81, 12, 10, 12, 0, 0), (12, .getfield 247, 15, 6, 0, 0, 0), (15, .iload_n 1, 16, 1, 0, 0, 0), (16, .aload_n 0, 17, 0, 0, 0, 0), (17, .getfield 81, 20, 10, 12, 0, 0), (20, .getfield 160, 23, 6, 1, 0, 0), (23, .iconst (-1), 24, 0, 0, -1, 0), (24, .if_icmp .ne 7, 27, 31, 0, 0, 0), (27, .iconst 0, 28, 0, 0, 0, 0), (28, .goto 27, 55, 0, 0, 0, 0), (31, .aload_n 0, 32, 0, 0, 0, 0), (32, .getfield 53, 35, 10, 8, 0, 0), (35, .aload_n 0, 36, 0, 0, 0, 0), (36, .getfield 39, 39, 10, 6, 0, 0), (39, .aload_n 0, 40, 0, 0, 0, 0), (40, .getfield 81, 43, 10, 12, 0, 0), (43, .getfield 160, 46, 6, 1, 0, 0), (46, .aaload, 47, 0, 0, 0, 0), (47, .aload_n 0, 48, 0, 0, 0, 0), (48, .getfield 19, 51, 10, 1, 0, 0), (51, .iload_n 1, 52, 1, 0, 0, 0), (52, .invokevirtual 219, 55, 3, 0, 0, 0), (55, .iastore, 56, 0, 0, 0, 0), (56, .iinc 1 1, 59, 1, 0, 1, 0), (59, .goto (-57), 2, 0, 0, 0, 0), (62, .return_, 63, 0, 0, 0, 0)]
abbrev mX10_keepAnswers : MD := (yX10_keepAnswers, cX10_keepAnswers, 2, none, { frames := 3, cells := 0, slots := 0, locals := 75 }, tbX10_keepAnswers)
def tbX10_graphChanged : List (Nat × En) := [(0, .aload_n 0, 1, 0, 0, 0, 0), (1, .getfield 12, 4, 10, 0, 0, 0), (4, .aload_n 0, 5, 0, 0, 0, 0), (5, .getfield 19, 8, 10, 1, 0, 0), (8, .iconst (-1), 9, 0, 0, -1, 0), (9, .invokevirtual 280, 12, 2, 0, 0, 0), (12, .aload_n 0, 13, 0, 0, 0, 0), (13, .invokevirtual 163, 16, 0, 0, 0, 0), (16, .return_, 17, 0, 0, 0, 0)]
abbrev mX10_graphChanged : MD := (yX10_graphChanged, cX10_graphChanged, 1, none, { frames := 4, cells := 0, slots := 0, locals := 96 }, tbX10_graphChanged)
def tbX10_edge : List (Nat × En) := [(0, .iload_n 1, 1, 1, 0, 0, 0), (1, .invokestatic 99, 4, 1, 0, 0, 0), (4, .ifCond .eq 19, 7, 23, 0, 0, 0), (7, .iload_n 2, 8, 2, 0, 0, 0), (8, .ifCond .lt 15, 11, 23, 0, 0, 0), (11, .iload_n 2, 12, 2, 0, 0, 0), (12, .iconst 4, 13, 0, 0, 4, 0), (13, .if_icmp .ge 10, 16, 23, 0, 0, 0), (16, .iload_n 3, 17, 3, 0, 0, 0), (17, .invokestatic 99, 20, 1, 0, 0, 0), (20, .ifCond .ne 10, 23, 30, 0, 0, 0), (23, .aload_n 0, 24, 0, 0, 0, 0), (24, .bipush (-2), 26, 0, 0, -2, 0), (26, .invokevirtual 103, 29, 1, 0, 0, 0), (29, .ireturn, 30, 0, 0, 0, 0), (30, .aload_n 0, 31, 0, 0, 0, 0), (31, .getfield 12, 34, 10, 0, 0, 0), (34, .iload_n 1, 35, 1, 0, 0, 0), (35, .iload_n 2, 36, 2, 0, 0, 0), (36, .iload_n 3, 37, 3, 0, 0, 0), (37, .invokevirtual 107, 40, 3, 0, 0, 0), (40, .ifCond .eq 10, 43, 50, 0, 0, 0), (43, .aload_n 0, 44, 0, 0, 0, 0), (44, .bipush (-3), 46, 0, 0, -3, 0), (46, .invokevirtual 103, 49, 1, 0, 0, 0), (49, .ireturn, 50, 0, 0, 0, 0), (50, .aload_n 0, 51, 0, 0, 0, 0), (51, .getfield 12, 54, 10, 0, 0, 0), (54, .getfield 111, 57, 1, 3, 0, 0), (57, .bipush 30, 59, 0, 0, 30, 0), (59, .if_icmp .lt 10, 62, 69, 0, 0, 0), (62, .aload_n 0, 63, 0, 0, 0, 0), (63, .bipush (-4), 65, 0, 0, -4, 0), (65, .invokevirtual 103, 68, 1, 0, 0, 0), (68, .ireturn, 69, 0, 0, 0, 0), (69, .aload_n 0, 70, 0, 0, 0, 0), (70, .getfield 81, 73, 10, 12, 0, 0), (73, .invokevirtual 114, 76, 0, 0, 0, 0), (76, .istore 4, 78, 4, 0, 0, 0), (78, .aload_n 0, 79, 0, 0, 0, 0), (79, .getfield 12, 82, 10, 0, 0, 0), (82, .iload_n 1, 83, 1, 0, 0, 0), (83, .iload_n 2, 84, 2, 0, 0, 0), (84, .iload_n 3, 85, 3, 0, 0, 0), (85, .invokevirtual 117, 88, 3, 0, 0, 0), (88, .aload_n 0, 89, 0, 0, 0, 0), (89, .invokevirtual 120, 92, 0, 0, 0, 0), (92, .aload_n 0, 93, 0, 0, 0, 0), (93, .getfield 81, 96, 10, 12, 0, 0), (96, .invokevirtual 114, 99, 0, 0, 0, 0), (99, .iload 4, 101, 4, 0, 0, 0), (101, .isub, 102, 0, 0, 0, 0), (102, .istore 5, 104, 5, 0, 0, 0), (104, .aload_n 0, 105, 0, 0, 0, 0), (105, .getfield 81, 108, 10, 12, 0, 0), (108, .dup, 109, 0, 0, 0, 0), (109, .getfield 123, 112, 6, 2, 0, 0), (112, .iload 5, 114, 5, 0, 0, 0), (114, .iadd, 115, 0, 0, 0, 0), (115, .putfield 123, 118, 6, 2, 0, 0), (118, .iload 5, 120, 5, 0, 0, 0), (120, .ireturn, 121, 0, 0, 0, 0)]
abbrev mX10_edge : MD := (yX10_edge, cX10_edge, 6, (some .int), { frames := 5, cells := 0, slots := 0, locals := 116 }, tbX10_edge)
def tbX10_drop : List (Nat × En) := [(0, .aload_n 0, 1, 0, 0, 0, 0), (1, .getfield 12, 4, 10, 0, 0, 0), (4, .iload_n 1, 5, 1, 0, 0, 0), (5, .invokevirtual 126, 8, 1, 0, 0, 0), (8, .ifCond .ne 10, 11, 18, 0, 0, 0), (11, .aload_n 0, 12, 0, 0, 0, 0), (12, .bipush (-2), 14, 0, 0, -2, 0), (14, .invokevirtual 103, 17, 1, 0, 0, 0), (17, .ireturn, 18, 0, 0, 0, 0), (18, .aload_n 0, 19, 0, 0, 0, 0), (19, .getfield 81, 22, 10, 12, 0, 0), (22, .invokevirtual 114, 25, 0, 0, 0, 0), (25, .istore_n 2, 26, 2, 0, 0, 0), (26, .aload_n 0, 27, 0, 0, 0, 0), (27, .getfield 12, 30, 10, 0, 0, 0), (30, .iload_n 1, 31, 1, 0, 0, 0), (31, .invokevirtual 129, 34, 1, 0, 0, 0), (34, .aload_n 0, 35, 0, 0, 0, 0), (35, .invokevirtual 120, 38, 0, 0, 0, 0), (38, .iload_n 2, 39, 2, 0, 0, 0), (39, .aload_n 0, 40, 0, 0, 0, 0), (40, .getfield 81, 43, 10, 12, 0, 0), (43, .invokevirtual 114, 46, 0, 0, 0, 0), (46, .isub, 47, 0, 0, 0, 0), (47, .istore_n 3, 48, 3, 0, 0, 0), (48, .aload_n 0, 49, 0, 0, 0, 0), (49, .getfield 81, 52, 10, 12, 0, 0), (52, .dup, 53, 0, 0, 0, 0), (53, .getfield 133, 56, 6, 3, 0, 0), (56, .iload_n 3, 57, 3, 0, 0, 0), (57, .iadd, 58, 0, 0, 0, 0), (58, .putfield 133, 61, 6, 3, 0, 0), (61, .iload_n 3, 62, 3, 0, 0, 0), (62, .ireturn, 63, 0, 0, 0, 0)]
abbrev mX10_drop : MD := (yX10_drop, cX10_drop, 4, (some .int), { frames := 5, cells := 0, slots := 0, locals := 116 }, tbX10_drop)
def tbX10_anew : List (Nat × En) := [(0, .aload_n 0, 1, 0, 0, 0, 0), (1, .getfield 12, 4, 10, 0, 0, 0), (4, .getfield 111, 7, 1, 3, 0, 0), (7, .istore_n 1, 8, 1, 0, 0, 0), (8, .aload_n 0, 9, 0, 0, 0, 0), (9, .getfield 12, 12, 10, 0, 0, 0), (12, .iconst 0, 13, 0, 0, 0, 0), (13, .putfield 111, 16, 1, 3, 0, 0), (16, .aload_n 0, 17, 0, 0, 0, 0), (17, .invokevirtual 120, 20, 0, 0, 0, 0), (20, .iload_n 1, 21, 1, 0, 0, 0), (21, .ireturn, 22, 0, 0, 0, 0)]
abbrev mX10_anew : MD := (yX10_anew, cX10_anew, 2, (some .int), { frames := 5, cells := 0, slots := 0, locals := 116 }, tbX10_anew)
def tbX10_of : List (Nat × En) := [(0, .aload_n 0, 1, 0, 0, 0, 0), (1, .getfield 12, 4, 10, 0, 0, 0), (4, .iload_n 1, 5, 1, 0, 0, 0), (5, .invokevirtual 126, 8, 1, 0, 0, 0), (8, .ifCond .eq 12, 11, 20, 0, 0, 0), (11, .iload_n 2, 12, 2, 0, 0, 0), (12, .ifCond .lt 8, 15, 20, 0, 0, 0), (15, .iload_n 2, 16, 2, 0, 0, 0), (16, .iconst 2, 17, 0, 0, 2, 0), (17, .if_icmp .le 10, 20, 27, 0, 0, 0), (20, .aload_n 0, 21, 0, 0, 0, 0), (21, .bipush (-2), 23, 0, 0, -2, 0), (23, .invokevirtual 103, 26, 1, 0, 0, 0), (26, .ireturn, 27, 0, 0, 0, 0), (27, .iload_n 2, 28, 2, 0, 0, 0), (28, .ifCond .ne 13, 31, 41, 0, 0, 0), (31, .aload_n 0, 32, 0, 0, 0, 0), (32, .getfield 12, 35, 10, 0, 0, 0), (35, .getfield 136, 38, 1, 0, 0, 0), (38, .iload_n 1, 39, 1, 0, 0, 0), (39, .iaload, 40, 0, 0, 0, 0), (40, .ireturn, 41, 0, 0, 0, 0), (41, .iload_n 2, 42, 2, 0, 0, 0), (42, .iconst 1, 43, 0, 0, 1, 0), (43, .if_icmp .ne 15, 46, 58, 0, 0, 0), (46, .aload_n 0, 47, 0, 0, 0, 0), (47, .getfield 12, 50, 10, 0, 0, 0), (50, .getfield 139, 53, 1, 1, 0, 0), (53, .iload_n 1, 54, 1, 0, 0, 0), (54, .iaload, 55, 0, 0, 0, 0), (55, .goto 12, 67, 0, 0, 0, 0), (58, .aload_n 0, 59, 0, 0, 0, 0), (59, .getfield 12, 62, 10, 0, 0, 0), (62, .getfield 142, 65, 1, 2, 0, 0), (65, .iload_n 1, 66, 1, 0, 0, 0), (66, .iaload, 67, 0, 0, 0, 0), (67, .ireturn, 68, 0, 0, 0, 0)]
abbrev mX10_of : MD := (yX10_of, cX10_of, 3, (some .int), { frames := 1, cells := 0, slots := 0, locals := 21 }, tbX10_of)
def tbX10_degree : List (Nat × En) := [(0, .iload_n 1, 1, 1, 0, 0, 0), (1, .invokestatic 99, 4, 1, 0, 0, 0), (4, .ifCond .eq 12, 7, 16, 0, 0, 0), (7, .iload_n 2, 8, 2, 0, 0, 0), (8, .ifCond .lt 8, 11, 16, 0, 0, 0), (11, .iload_n 2, 12, 2, 0, 0, 0), (12, .iconst 1, 13, 0, 0, 1, 0), (13, .if_icmp .le 10, 16, 23, 0, 0, 0), (16, .aload_n 0, 17, 0, 0, 0, 0), (17, .bipush (-2), 19, 0, 0, -2, 0), (19, .invokevirtual 103, 22, 1, 0, 0, 0), (22, .ireturn, 23, 0, 0, 0, 0), (23, .iload_n 2, 24, 2, 0, 0, 0), (24, .ifCond .ne 13, 27, 37, 0, 0, 0), (27, .aload_n 0, 28, 0, 0, 0, 0), (28, .getfield 12, 31, 10, 0, 0, 0), (31, .getfield 136, 34, 1, 0, 0, 0), (34, .goto 10, 44, 0, 0, 0, 0), (37, .aload_n 0, 38, 0, 0, 0, 0), (38, .getfield 12, 41, 10, 0, 0, 0), (41, .getfield 142, 44, 1, 2, 0, 0), (44, .astore_n 3, 45, 3, 0, 0, 0), (45, .iconst 0, 46, 0, 0, 0, 0), (46, .istore 4, 48, 4, 0, 0, 0), (48, .iconst 0, 49, 0, 0, 0, 0), (49, .istore 5, 51, 5, 0, 0, 0), (51, .iload 5, 53, 5, 0, 0, 0), (53, .aload_n 0, 54, 0, 0, 0, 0), (54, .getfield 12, 57, 10, 0, 0, 0), (57, .getfield 111, 60, 1, 3, 0, 0), (60, .if_icmp .ge 20, 63, 80, 0, 0, 0), (63, .aload_n 3, 64, 3, 0, 0, 0), (64, .iload 5, 66, 5, 0, 0, 0), (66, .iaload, 67, 0, 0, 0, 0), (67, .iload_n 1, 68, 1, 0, 0, 0), (68, .if_icmp .ne 6, 71, 74, 0, 0, 0), (71, .iinc 4 1, 74, 4, 0, 1, 0), (74, .iinc 5 1, 77, 5, 0, 1, 0), (77, .goto (-26), 51, 0, 0, 0, 0), (80, .iload 4, 82, 4, 0, 0, 0), (82, .ireturn, 83, 0, 0, 0, 0)]
abbrev mX10_degree : MD := (yX10_degree, cX10_degree, 6, (some .int), { frames := 1, cells := 0, slots := 0, locals := 21 }, tbX10_degree)
def tbX10_type : List (Nat × En) := [(0, .iload_n 1, 1, 1, 0, 0, 0), (1, .ifCond .lt 9, 4, 10, 0, 0, 0), (4, .iload_n 1, 5, 1, 0, 0, 0), (5, .bipush 127, 7, 0, 0, 127, 0), (7, .if_icmp .le 10, 10, 17, 0, 0, 0), (10, .aload_n 0, 11, 0, 0, 0, 0), (11, .bipush (-2), 13, 0, 0, -2, 0), (13, .invokevirtual 103, 16, 1, 0, 0, 0), (16, .ireturn, 17, 0, 0, 0, 0), (17, .aload_n 0, 18, 0, 0, 0, 0), (18, .getfield 33, 21, 10, 5, 0, 0), (21, .bipush 80, 23, 0, 0, 80, 0), (23, .if_icmp .lt 10, 26, 33, 0, 0, 0), (26, .aload_n 0, 27, 0, 0, 0, 0), (27, .bipush (-4), 29, 0, 0, -4, 0), (29, .invokevirtual 103, 32, 1, 0, 0, 0), (32, .ireturn, 33, 0, 0, 0, 0), (33, .aload_n 0, 34, 0, 0, 0, 0), (34, .getfield 29, 37, 10, 4, 0, 0), (37, .aload_n 0, 38, 0, 0, 0, 0), (38, .getfield 33, 41, 10, 5, 0, 0), (41, .iload_n 1, 42, 1, 0, 0, 0), (42, .iastore, 43, 0, 0, 0, 0), (43, .aload_n 0, 44, 0, 0, 0, 0), (44, .dup, 45, 0, 0, 0, 0), (45, .getfield 33, 48, 10, 5, 0, 0), (48, .iconst 1, 49, 0, 0, 1, 0), (49, .iadd, 50, 0, 0, 0, 0), (50, .putfield 33, 53, 10, 5, 0, 0), (53, .aload_n 0, 54, 0, 0, 0, 0), (54, .getfield 33, 57, 10, 5, 0, 0), (57, .ireturn, 58, 0, 0, 0, 0)]
abbrev mX10_type : MD := (yX10_type, cX10_type, 2, (some .int), { frames := 1, cells := 0, slots := 0, locals := 21 }, tbX10_type)
def tbX10_clear : List (Nat × En) := [(0, .aload_n 0, 1, 0, 0, 0, 0), (1, .getfield 33, 4, 10, 5, 0, 0), (4, .istore_n 1, 5, 1, 0, 0, 0), (5, .aload_n 0, 6, 0, 0, 0, 0), (6, .iconst 0, 7, 0, 0, 0, 0), (7, .putfield 33, 10, 10, 5, 0, 0), (10, .iload_n 1, 11, 1, 0, 0, 0), (11, .ireturn, 12, 0, 0, 0, 0)]
abbrev mX10_clear : MD := (yX10_clear, cX10_clear, 2, (some .int), { frames := 0, cells := 0, slots := 0, locals := 0 }, tbX10_clear)
def tbX10_isExpression : List (Nat × En) := [(0, .iload_n 0, 1, 0, 0, 0, 0), (1, .ifCond .lt 12, 4, 13, 0, 0, 0), (4, .iload_n 0, 5, 0, 0, 0, 0), (5, .iconst 4, 6, 0, 0, 4, 0), (6, .if_icmp .ge 7, 9, 13, 0, 0, 0), (9, .iconst 1, 10, 0, 0, 1, 0), (10, .goto 4, 14, 0, 0, 0, 0), (13, .iconst 0, 14, 0, 0, 0, 0), (14, .ireturn, 15, 0, 0, 0, 0)]
abbrev mX10_isExpression : MD := (yX10_isExpression, cX10_isExpression, 1, (some .boolean), { frames := 0, cells := 0, slots := 0, locals := 0 }, tbX10_isExpression)
def tbX10_reads : List (Nat × En) := [(0, .iload_n 1, 1, 1, 0, 0, 0), (1, .invokestatic 145, 4, 1, 0, 0, 0), (4, .ifCond .ne 10, 7, 14, 0, 0, 0), (7, .aload_n 0, 8, 0, 0, 0, 0), (8, .bipush (-2), 10, 0, 0, -2, 0), (10, .invokevirtual 103, 13, 1, 0, 0, 0), (13, .ireturn, 14, 0, 0, 0, 0), (14, .aload_n 0, 15, 0, 0, 0, 0), (15, .getfield 46, 18, 10, 7, 0, 0), (18, .aload_n 0, 19, 0, 0, 0, 0), (19, .getfield 29, 22, 10, 4, 0, 0), (22, .aload_n 0, 23, 0, 0, 0, 0), (23, .getfield 33, 26, 10, 5, 0, 0), (26, .invokevirtual 148, 29, 2, 0, 0, 0), (29, .istore_n 2, 30, 2, 0, 0, 0), (30, .iload_n 2, 31, 2, 0, 0, 0), (31, .iconst (-1), 32, 0, 0, -1, 0), (32, .if_icmp .eq 8, 35, 40, 0, 0, 0), (35, .bipush (-10), 37, 0, 0, -10, 0), (37, .iload_n 2, 38, 2, 0, 0, 0), (38, .isub, 39, 0, 0, 0, 0), (39, .ireturn, 40, 0, 0, 0, 0), (40, .aload_n 0, 41, 0, 0, 0, 0), (41, .getfield 39, 44, 10, 6, 0, 0), (44, .iload_n 1, 45, 1, 0, 0, 0), (45, .aaload, 46, 0, 0, 0, 0), (46, .aload_n 0, 47, 0, 0, 0, 0), (47, .getfield 46, 50, 10, 7, 0, 0), (50, .getfield 152, 53, 4, 0, 0, 0), (53, .invokevirtual 156, 56, 1, 0, 0, 0), (56, .aload_n 0, 57, 0, 0, 0, 0), (57, .getfield 81, 60, 10, 12, 0, 0), (60, .getfield 160, 63, 6, 1, 0, 0), (63, .iload_n 1, 64, 1, 0, 0, 0), (64, .if_icmp .ne 7, 67, 71, 0, 0, 0), (67, .aload_n 0, 68, 0, 0, 0, 0), (68, .invokevirtual 163, 71, 0, 0, 0, 0), (71, .aload_n 0, 72, 0, 0, 0, 0), (72, .getfield 39, 75, 10, 6, 0, 0), (75, .iload_n 1, 76, 1, 0, 0, 0), (76, .aaload, 77, 0, 0, 0, 0), (77, .getfield 166, 80, 2, 3, 0, 0), (80, .ireturn, 81, 0, 0, 0, 0)]
abbrev mX10_reads : MD := (yX10_reads, cX10_reads, 3, (some .int), { frames := 6, cells := 0, slots := 0, locals := 128 }, tbX10_reads)
def tbX10_orRefused : List (Nat × En) := [(0, .iload_n 1, 1, 1, 0, 0, 0), (1, .bipush (-4), 3, 0, 0, -4, 0), (3, .if_icmp .ne 12, 6, 15, 0, 0, 0), (6, .aload_n 0, 7, 0, 0, 0, 0), (7, .bipush (-4), 9, 0, 0, -4, 0), (9, .invokevirtual 103, 12, 1, 0, 0, 0), (12, .goto 4, 16, 0, 0, 0, 0), (15, .iload_n 1, 16, 1, 0, 0, 0), (16, .ireturn, 17, 0, 0, 0, 0)]
abbrev mX10_orRefused : MD := (yX10_orRefused, cX10_orRefused, 2, (some .int), { frames := 1, cells := 0, slots := 0, locals := 21 }, tbX10_orRefused)
def tbX10_about : List (Nat × En) := [(0, .iload_n 1, 1, 1, 0, 0, 0), (1, .invokestatic 145, 4, 1, 0, 0, 0), (4, .ifCond .eq 12, 7, 16, 0, 0, 0), (7, .iload_n 2, 8, 2, 0, 0, 0), (8, .ifCond .lt 8, 11, 16, 0, 0, 0), (11, .iload_n 2, 12, 2, 0, 0, 0), (12, .iconst 4, 13, 0, 0, 4, 0), (13, .if_icmp .le 10, 16, 23, 0, 0, 0), (16, .aload_n 0, 17, 0, 0, 0, 0), (17, .bipush (-2), 19, 0, 0, -2, 0), (19, .invokevirtual 103, 22, 1, 0, 0, 0), (22, .ireturn, 23, 0, 0, 0, 0), (23, .aload_n 0, 24, 0, 0, 0, 0), (24, .getfield 39, 27, 10, 6, 0, 0), (27, .iload_n 1, 28, 1, 0, 0, 0), (28, .aaload, 29, 0, 0, 0, 0), (29, .astore_n 3, 30, 3, 0, 0, 0), (30, .aload_n 3, 31, 3, 0, 0, 0), (31, .getfield 169, 34, 2, 4, 0, 0), (34, .ifCond .ne 5, 37, 39, 0, 0, 0), (37, .iconst (-1), 38, 0, 0, -1, 0), (38, .ireturn, 39, 0, 0, 0, 0), (39, .iload_n 2, 40, 2, 0, 0, 0), (40, .tableswitch 71 0 3 #[32, 37, 51, 60], 72, 0, 32, 0, 0), (72, .aload_n 3, 73, 3, 0, 0, 0), (73, .getfield 166, 76, 2, 3, 0, 0), (76, .ireturn, 77, 0, 0, 0, 0), (77, .aload_n 3, 78, 3, 0, 0, 0), (78, .iconst 1, 79, 0, 0, 1, 0), (79, .invokevirtual 173, 82, 1, 0, 0, 0), (82, .ifCond .eq 7, 85, 89, 0, 0, 0), (85, .iconst 1, 86, 0, 0, 1, 0), (86, .goto 4, 90, 0, 0, 0, 0), (89, .iconst 0, 90, 0, 0, 0, 0), (90, .ireturn, 91, 0, 0, 0, 0), (91, .aload_n 3, 92, 3, 0, 0, 0), (92, .iconst 1, 93, 0, 0, 1, 0), (93, .invokevirtual 176, 96, 1, 0, 0, 0), (96, .invokestatic 179, 99, 1, 0, 0, 0), (99, .ireturn, 100, 0, 0, 0, 0), (100, .aload_n 3, 101, 3, 0, 0, 0), (101, .getfield 184, 104, 2, 2, 0, 0), (104, .bipush (-2), 106, 0, 0, -2, 0), (106, .iand, 107, 0, 0, 0, 0), (107, .invokestatic 179, 110, 1, 0, 0, 0), (110, .ireturn, 111, 0, 0, 0, 0), (111, .aload_n 0, 112, 0, 0, 0, 0), (112, .aload_n 0, 113, 0, 0, 0, 0), (113, .getfield 74, 116, 10, 11, 0, 0), (116, .aload_n 3, 117, 3, 0, 0, 0), (117, .invokevirtual 187, 120, 1, 0, 0, 0), (120, .invokevirtual 191, 123, 1, 0, 0, 0), (123, .ireturn, 124, 0, 0, 0, 0)]
abbrev mX10_about : MD := (yX10_about, cX10_about, 4, (some .int), { frames := 4, cells := 0, slots := 0, locals := 105 }, tbX10_about)
def tbX10_isWord : List (Nat × En) := [(0, .iload_n 0, 1, 0, 0, 0, 0), (1, .ifCond .lt 13, 4, 14, 0, 0, 0), (4, .iload_n 0, 5, 0, 0, 0, 0), (5, .bipush 9, 7, 0, 0, 9, 0), (7, .if_icmp .gt 7, 10, 14, 0, 0, 0), (10, .iload_n 1, 11, 1, 0, 0, 0), (11, .ifCond .ge 5, 14, 16, 0, 0, 0), (14, .iconst 0, 15, 0, 0, 0, 0), (15, .ireturn, 16, 0, 0, 0, 0), (16, .iload_n 1, 17, 1, 0, 0, 0), (17, .istore_n 2, 18, 2, 0, 0, 0), (18, .iconst 0, 19, 0, 0, 0, 0), (19, .istore_n 3, 20, 3, 0, 0, 0), (20, .iload_n 3, 21, 3, 0, 0, 0), (21, .iload_n 0, 22, 0, 0, 0, 0), (22, .if_icmp .ge 25, 25, 47, 0, 0, 0), (25, .iload_n 2, 26, 2, 0, 0, 0), (26, .bipush 10, 28, 0, 0, 10, 0), (28, .irem, 29, 0, 0, 0, 0), (29, .bipush 8, 31, 0, 0, 8, 0), (31, .if_icmp .lt 5, 34, 36, 0, 0, 0), (34, .iconst 0, 35, 0, 0, 0, 0), (35, .ireturn, 36, 0, 0, 0, 0), (36, .iload_n 2, 37, 2, 0, 0, 0), (37, .bipush 10, 39, 0, 0, 10, 0), (39, .idiv, 40, 0, 0, 0, 0), (40, .istore_n 2, 41, 2, 0, 0, 0), (41, .iinc 3 1, 44, 3, 0, 1, 0), (44, .goto (-24), 20, 0, 0, 0, 0), (47, .iload_n 2, 48, 2, 0, 0, 0), (48, .ifCond .ne 7, 51, 55, 0, 0, 0), (51, .iconst 1, 52, 0, 0, 1, 0), (52, .goto 4, 56, 0, 0, 0, 0), (55, .iconst 0, 56, 0, 0, 0, 0), (56, .ireturn, 57, 0, 0, 0, 0)]
abbrev mX10_isWord : MD := (yX10_isWord, cX10_isWord, 4, (some .boolean), { frames := 0, cells := 0, slots := 0, locals := 0 }, tbX10_isWord)
def tbJ9_max_7cf53 : List (Nat × En) := [(0, .iload_n 0, 1, 0, 0, 0, 0), (1, .iload_n 1, 2, 1, 0, 0, 0), (2, .if_icmp .lt 7, 5, 9, 0, 0, 0), (5, .iload_n 0, 6, 0, 0, 0, 0), (6, .goto 4, 10, 0, 0, 0, 0), (9, .iload_n 1, 10, 1, 0, 0, 0), (10, .ireturn, 11, 0, 0, 0, 0)]
abbrev mJ9_max_7cf53 : MD := (yJ9_max_7cf53, cJ9_max_7cf53, 2, (some .int), { frames := 0, cells := 0, slots := 0, locals := 0 }, tbJ9_max_7cf53)
def tbX10_accepts : List (Nat × En) := [(0, .iload_n 1, 1, 1, 0, 0, 0), (1, .invokestatic 145, 4, 1, 0, 0, 0), (4, .ifCond .eq 11, 7, 15, 0, 0, 0), (7, .iload_n 2, 8, 2, 0, 0, 0), (8, .iload_n 3, 9, 3, 0, 0, 0), (9, .invokestatic 194, 12, 2, 0, 0, 0), (12, .ifCond .ne 10, 15, 22, 0, 0, 0), (15, .aload_n 0, 16, 0, 0, 0, 0), (16, .bipush (-2), 18, 0, 0, -2, 0), (18, .invokevirtual 103, 21, 1, 0, 0, 0), (21, .ireturn, 22, 0, 0, 0, 0), (22, .aload_n 0, 23, 0, 0, 0, 0), (23, .getfield 39, 26, 10, 6, 0, 0), (26, .iload_n 1, 27, 1, 0, 0, 0), (27, .aaload, 28, 0, 0, 0, 0), (28, .astore 4, 30, 4, 0, 0, 0), (30, .aload 4, 32, 4, 0, 0, 0), (32, .getfield 169, 35, 2, 4, 0, 0), (35, .ifCond .ne 10, 38, 45, 0, 0, 0), (38, .aload_n 0, 39, 0, 0, 0, 0), (39, .bipush (-3), 41, 0, 0, -3, 0), (41, .invokevirtual 103, 44, 1, 0, 0, 0), (44, .ireturn, 45, 0, 0, 0, 0), (45, .iconst 1, 46, 0, 0, 1, 0), (46, .istore 5, 48, 5, 0, 0, 0), (48, .iconst 1, 49, 0, 0, 1, 0), (49, .istore 6, 51, 6, 0, 0, 0), (51, .iload 6, 53, 6, 0, 0, 0), (53, .iload_n 2, 54, 2, 0, 0, 0), (54, .if_icmp .ge 16, 57, 70, 0, 0, 0), (57, .iload 5, 59, 5, 0, 0, 0), (59, .bipush 10, 61, 0, 0, 10, 0), (61, .imul, 62, 0, 0, 0, 0), (62, .istore 5, 64, 5, 0, 0, 0), (64, .iinc 6 1, 67, 6, 0, 1, 0), (67, .goto (-16), 51, 0, 0, 0, 0), (70, .iconst 1, 71, 0, 0, 1, 0), (71, .istore 6, 73, 6, 0, 0, 0), (73, .iconst 0, 74, 0, 0, 0, 0), (74, .istore 7, 76, 7, 0, 0, 0), (76, .iload 7, 78, 7, 0, 0, 0), (78, .iload_n 2, 79, 2, 0, 0, 0), (79, .if_icmp .ge 36, 82, 115, 0, 0, 0), (82, .aload 4, 84, 4, 0, 0, 0), (84, .iload 6, 86, 6, 0, 0, 0), (86, .iload_n 3, 87, 3, 0, 0, 0), (87, .iload 5, 89, 5, 0, 0, 0), (89, .idiv, 90, 0, 0, 0, 0), (90, .bipush 10, 92, 0, 0, 10, 0), (92, .irem, 93, 0, 0, 0, 0), (93, .invokevirtual 198, 96, 2, 0, 0, 0), (96, .istore 6, 98, 6, 0, 0, 0), (98, .iconst 1, 99, 0, 0, 1, 0), (99, .iload 5, 101, 5, 0, 0, 0), (101, .bipush 10, 103, 0, 0, 10, 0), (103, .idiv, 104, 0, 0, 0, 0), (104, .invokestatic 202, 107, 2, 0, 0, 0), (107, .istore 5, 109, 5, 0, 0, 0), (109, .iinc 7 1, 112, 7, 0, 1, 0), (112, .goto (-36), 76, 0, 0, 0, 0), (115, .aload 4, 117, 4, 0, 0, 0), (117, .iload 6, 119, 6, 0, 0, 0), (119, .invokevirtual 173, 122, 1, 0, 0, 0), (122, .ifCond .eq 7, 125, 129, 0, 0, 0), (125, .iconst 1, 126, 0, 0, 1, 0), (126, .goto 4, 130, 0, 0, 0, 0), (129, .iconst 0, 130, 0, 0, 0, 0), (130, .ireturn, 131, 0, 0, 0, 0)]
abbrev mX10_accepts : MD := (yX10_accepts, cX10_accepts, 8, (some .int), { frames := 2, cells := 0, slots := 0, locals := 45 }, tbX10_accepts)
def tbX10_words : List (Nat × En) := [(0, .iload_n 1, 1, 1, 0, 0, 0), (1, .invokestatic 145, 4, 1, 0, 0, 0), (4, .ifCond .eq 13, 7, 17, 0, 0, 0), (7, .iload_n 2, 8, 2, 0, 0, 0), (8, .ifCond .lt 9, 11, 17, 0, 0, 0), (11, .iload_n 2, 12, 2, 0, 0, 0), (12, .bipush 9, 14, 0, 0, 9, 0), (14, .if_icmp .le 10, 17, 24, 0, 0, 0), (17, .aload_n 0, 18, 0, 0, 0, 0), (18, .bipush (-2), 20, 0, 0, -2, 0), (20, .invokevirtual 103, 23, 1, 0, 0, 0), (23, .ireturn, 24, 0, 0, 0, 0), (24, .aload_n 0, 25, 0, 0, 0, 0), (25, .getfield 39, 28, 10, 6, 0, 0), (28, .iload_n 1, 29, 1, 0, 0, 0), (29, .aaload, 30, 0, 0, 0, 0), (30, .getfield 169, 33, 2, 4, 0, 0), (33, .ifCond .ne 10, 36, 43, 0, 0, 0), (36, .aload_n 0, 37, 0, 0, 0, 0), (37, .bipush (-3), 39, 0, 0, -3, 0), (39, .invokevirtual 103, 42, 1, 0, 0, 0), (42, .ireturn, 43, 0, 0, 0, 0), (43, .aload_n 0, 44, 0, 0, 0, 0), (44, .aload_n 0, 45, 0, 0, 0, 0), (45, .getfield 67, 48, 10, 10, 0, 0), (48, .aload_n 0, 49, 0, 0, 0, 0), (49, .getfield 39, 52, 10, 6, 0, 0), (52, .iload_n 1, 53, 1, 0, 0, 0), (53, .aaload, 54, 0, 0, 0, 0), (54, .aload_n 0, 55, 0, 0, 0, 0), (55, .getfield 26, 58, 10, 3, 0, 0), (58, .iconst 0, 59, 0, 0, 0, 0), (59, .iconst 0, 60, 0, 0, 0, 0), (60, .iload_n 2, 61, 2, 0, 0, 0), (61, .invokevirtual 207, 64, 5, 0, 0, 0), (64, .invokevirtual 191, 67, 1, 0, 0, 0), (67, .ireturn, 68, 0, 0, 0, 0)]
abbrev mX10_words : MD := (yX10_words, cX10_words, 3, (some .int), { frames := 6, cells := 0, slots := 0, locals := 152 }, tbX10_words)
def tbX10_beyond : List (Nat × En) := [(0, .iload_n 1, 1, 1, 0, 0, 0), (1, .invokestatic 145, 4, 1, 0, 0, 0), (4, .ifCond .eq 10, 7, 14, 0, 0, 0), (7, .iload_n 2, 8, 2, 0, 0, 0), (8, .invokestatic 145, 11, 1, 0, 0, 0), (11, .ifCond .ne 10, 14, 21, 0, 0, 0), (14, .aload_n 0, 15, 0, 0, 0, 0), (15, .bipush (-2), 17, 0, 0, -2, 0), (17, .invokevirtual 103, 20, 1, 0, 0, 0), (20, .ireturn, 21, 0, 0, 0, 0), (21, .aload_n 0, 22, 0, 0, 0, 0), (22, .getfield 39, 25, 10, 6, 0, 0), (25, .iload_n 1, 26, 1, 0, 0, 0), (26, .aaload, 27, 0, 0, 0, 0), (27, .getfield 169, 30, 2, 4, 0, 0), (30, .ifCond .eq 15, 33, 45, 0, 0, 0), (33, .aload_n 0, 34, 0, 0, 0, 0), (34, .getfield 39, 37, 10, 6, 0, 0), (37, .iload_n 2, 38, 2, 0, 0, 0), (38, .aaload, 39, 0, 0, 0, 0), (39, .getfield 169, 42, 2, 4, 0, 0), (42, .ifCond .ne 10, 45, 52, 0, 0, 0), (45, .aload_n 0, 46, 0, 0, 0, 0), (46, .bipush (-3), 48, 0, 0, -3, 0), (48, .invokevirtual 103, 51, 1, 0, 0, 0), (51, .ireturn, 52, 0, 0, 0, 0), (52, .aload_n 0, 53, 0, 0, 0, 0), (53, .aload_n 0, 54, 0, 0, 0, 0), (54, .getfield 74, 57, 10, 11, 0, 0), (57, .aload_n 0, 58, 0, 0, 0, 0), (58, .getfield 39, 61, 10, 6, 0, 0), (61, .iload_n 1, 62, 1, 0, 0, 0), (62, .aaload, 63, 0, 0, 0, 0), (63, .aload_n 0, 64, 0, 0, 0, 0), (64, .getfield 39, 67, 10, 6, 0, 0), (67, .iload_n 2, 68, 2, 0, 0, 0), (68, .aaload, 69, 0, 0, 0, 0), (69, .sipush 400, 72, 0, 0, 400, 0), (72, .invokevirtual 211, 75, 3, 0, 0, 0), (75, .invokevirtual 191, 78, 1, 0, 0, 0), (78, .ireturn, 79, 0, 0, 0, 0)]
abbrev mX10_beyond : MD := (yX10_beyond, cX10_beyond, 3, (some .int), { frames := 3, cells := 0, slots := 0, locals := 83 }, tbX10_beyond)
def tbX10_refusalOf : List (Nat × En) := [(0, .iload_n 1, 1, 1, 0, 0, 0), (1, .invokestatic 145, 4, 1, 0, 0, 0), (4, .ifCond .eq 17, 7, 21, 0, 0, 0), (7, .iload_n 2, 8, 2, 0, 0, 0), (8, .invokestatic 99, 11, 1, 0, 0, 0), (11, .ifCond .eq 10, 14, 21, 0, 0, 0), (14, .iload_n 3, 15, 3, 0, 0, 0), (15, .invokestatic 99, 18, 1, 0, 0, 0), (18, .ifCond .ne 6, 21, 24, 0, 0, 0), (21, .bipush (-2), 23, 0, 0, -2, 0), (23, .ireturn, 24, 0, 0, 0, 0), (24, .aload_n 0, 25, 0, 0, 0, 0), (25, .getfield 39, 28, 10, 6, 0, 0), (28, .iload_n 1, 29, 1, 0, 0, 0), (29, .aaload, 30, 0, 0, 0, 0), (30, .getfield 169, 33, 2, 4, 0, 0), (33, .ifCond .eq 7, 36, 40, 0, 0, 0), (36, .iconst 0, 37, 0, 0, 0, 0), (37, .goto 5, 42, 0, 0, 0, 0), (40, .bipush (-3), 42, 0, 0, -3, 0), (42, .ireturn, 43, 0, 0, 0, 0)]
abbrev mX10_refusalOf : MD := (yX10_refusalOf, cX10_refusalOf, 4, (some .int), { frames := 1, cells := 0, slots := 0, locals := 20 }, tbX10_refusalOf)
def tbX10_answers : List (Nat × En) := [(0, .aload_n 0, 1, 0, 0, 0, 0), (1, .iload_n 1, 2, 1, 0, 0, 0), (2, .iload_n 2, 3, 2, 0, 0, 0), (3, .iload_n 3, 4, 3, 0, 0, 0), (4, .invokevirtual 215, 7, 3, 0, 0, 0), (7, .istore 4, 9, 4, 0, 0, 0), (9, .iload 4, 11, 4, 0, 0, 0), (11, .ifCond .eq 10, 14, 21, 0, 0, 0), (14, .aload_n 0, 15, 0, 0, 0, 0), (15, .iload 4, 17, 4, 0, 0, 0), (17, .invokevirtual 103, 20, 1, 0, 0, 0), (20, .ireturn, 21, 0, 0, 0, 0), (21, .aload_n 0, 22, 0, 0, 0, 0), (22, .getfield 53, 25, 10, 8, 0, 0), (25, .aload_n 0, 26, 0, 0, 0, 0), (26, .getfield 39, 29, 10, 6, 0, 0), (29, .iload_n 1, 30, 1, 0, 0, 0), (30, .aaload, 31, 0, 0, 0, 0), (31, .aload_n 0, 32, 0, 0, 0, 0), (32, .getfield 19, 35, 10, 1, 0, 0), (35, .iload_n 2, 36, 2, 0, 0, 0), (36, .invokevirtual 219, 39, 3, 0, 0, 0), (39, .iload_n 3, 40, 3, 0, 0, 0), (40, .ishr, 41, 0, 0, 0, 0), (41, .iconst 1, 42, 0, 0, 1, 0), (42, .iand, 43, 0, 0, 0, 0), (43, .ireturn, 44, 0, 0, 0, 0)]
abbrev mX10_answers : MD := (yX10_answers, cX10_answers, 5, (some .int), { frames := 3, cells := 0, slots := 0, locals := 75 }, tbX10_answers)
def tbX10_ends : List (Nat × En) := [(0, .aload_n 0, 1, 0, 0, 0, 0), (1, .iload_n 1, 2, 1, 0, 0, 0), (2, .iload_n 2, 3, 2, 0, 0, 0), (3, .iload_n 2, 4, 2, 0, 0, 0), (4, .invokevirtual 215, 7, 3, 0, 0, 0), (7, .istore_n 3, 8, 3, 0, 0, 0), (8, .iload_n 3, 9, 3, 0, 0, 0), (9, .ifCond .eq 9, 12, 18, 0, 0, 0), (12, .aload_n 0, 13, 0, 0, 0, 0), (13, .iload_n 3, 14, 3, 0, 0, 0), (14, .invokevirtual 103, 17, 1, 0, 0, 0), (17, .ireturn, 18, 0, 0, 0, 0), (18, .aload_n 0, 19, 0, 0, 0, 0), (19, .getfield 53, 22, 10, 8, 0, 0), (22, .aload_n 0, 23, 0, 0, 0, 0), (23, .getfield 39, 26, 10, 6, 0, 0), (26, .iload_n 1, 27, 1, 0, 0, 0), (27, .aaload, 28, 0, 0, 0, 0), (28, .aload_n 0, 29, 0, 0, 0, 0), (29, .getfield 19, 32, 10, 1, 0, 0), (32, .iload_n 2, 33, 2, 0, 0, 0), (33, .invokevirtual 219, 36, 3, 0, 0, 0), (36, .ireturn, 37, 0, 0, 0, 0)]
abbrev mX10_ends : MD := (yX10_ends, cX10_ends, 4, (some .int), { frames := 3, cells := 0, slots := 0, locals := 75 }, tbX10_ends)
def tbX10_answersOf : List (Nat × En) := [(0, .iconst 0, 1, 0, 0, 0, 0), (1, .istore_n 2, 2, 2, 0, 0, 0), (2, .iconst 0, 3, 0, 0, 0, 0), (3, .istore_n 3, 4, 3, 0, 0, 0), (4, .iload_n 3, 5, 3, 0, 0, 0), (5, .bipush 10, 7, 0, 0, 10, 0), (7, .if_icmp .ge 28, 10, 35, 0, 0, 0), (10, .iload_n 2, 11, 2, 0, 0, 0), (11, .aload_n 0, 12, 0, 0, 0, 0), (12, .getfield 53, 15, 10, 8, 0, 0), (15, .aload_n 1, 16, 1, 0, 0, 0), (16, .aload_n 0, 17, 0, 0, 0, 0), (17, .getfield 19, 20, 10, 1, 0, 0), (20, .iload_n 3, 21, 3, 0, 0, 0), (21, .invokevirtual 219, 24, 3, 0, 0, 0), (24, .invokestatic 179, 27, 1, 0, 0, 0), (27, .iadd, 28, 0, 0, 0, 0), (28, .istore_n 2, 29, 2, 0, 0, 0), (29, .iinc 3 1, 32, 3, 0, 1, 0), (32, .goto (-28), 4, 0, 0, 0, 0), (35, .iload_n 2, 36, 2, 0, 0, 0), (36, .ireturn, 37, 0, 0, 0, 0)]
abbrev mX10_answersOf : MD := (yX10_answersOf, cX10_answersOf, 4, (some .int), { frames := 3, cells := 0, slots := 0, locals := 75 }, tbX10_answersOf)
def tbX10_pairs : List (Nat × En) := [(0, .aload_n 0, 1, 0, 0, 0, 0), (1, .iload_n 1, 2, 1, 0, 0, 0), (2, .iconst 0, 3, 0, 0, 0, 0), (3, .iconst 0, 4, 0, 0, 0, 0), (4, .invokevirtual 215, 7, 3, 0, 0, 0), (7, .istore_n 2, 8, 2, 0, 0, 0), (8, .iload_n 2, 9, 2, 0, 0, 0), (9, .ifCond .eq 9, 12, 18, 0, 0, 0), (12, .aload_n 0, 13, 0, 0, 0, 0), (13, .iload_n 2, 14, 2, 0, 0, 0), (14, .invokevirtual 103, 17, 1, 0, 0, 0), (17, .ireturn, 18, 0, 0, 0, 0), (18, .aload_n 0, 19, 0, 0, 0, 0), (19, .aload_n 0, 20, 0, 0, 0, 0), (20, .getfield 39, 23, 10, 6, 0, 0), (23, .iload_n 1, 24, 1, 0, 0, 0), (24, .aaload, 25, 0, 0, 0, 0), (25, .invokevirtual 223, 28, 1, 0, 0, 0), (28, .ireturn, 29, 0, 0, 0, 0)]
abbrev mX10_pairs : MD := (yX10_pairs, cX10_pairs, 3, (some .int), { frames := 4, cells := 0, slots := 0, locals := 98 }, tbX10_pairs)
def tbX10_far : List (Nat × En) := [(0, .aload_n 0, 1, 0, 0, 0, 0), (1, .iload_n 1, 2, 1, 0, 0, 0), (2, .iload_n 2, 3, 2, 0, 0, 0), (3, .iload_n 3, 4, 3, 0, 0, 0), (4, .invokevirtual 215, 7, 3, 0, 0, 0), (7, .istore 4, 9, 4, 0, 0, 0), (9, .iload 4, 11, 4, 0, 0, 0), (11, .ifCond .eq 10, 14, 21, 0, 0, 0), (14, .aload_n 0, 15, 0, 0, 0, 0), (15, .iload 4, 17, 4, 0, 0, 0), (17, .invokevirtual 103, 20, 1, 0, 0, 0), (20, .ireturn, 21, 0, 0, 0, 0), (21, .aload_n 0, 22, 0, 0, 0, 0), (22, .getfield 60, 25, 10, 9, 0, 0), (25, .aload_n 0, 26, 0, 0, 0, 0), (26, .getfield 39, 29, 10, 6, 0, 0), (29, .iload_n 1, 30, 1, 0, 0, 0), (30, .aaload, 31, 0, 0, 0, 0), (31, .aload_n 0, 32, 0, 0, 0, 0), (32, .getfield 19, 35, 10, 1, 0, 0), (35, .iload_n 2, 36, 2, 0, 0, 0), (36, .iload_n 3, 37, 3, 0, 0, 0), (37, .invokevirtual 226, 40, 4, 0, 0, 0), (40, .ireturn, 41, 0, 0, 0, 0)]
abbrev mX10_far : MD := (yX10_far, cX10_far, 5, (some .int), { frames := 3, cells := 0, slots := 0, locals := 78 }, tbX10_far)
def tbX10_count : List (Nat × En) := [(0, .iload 4, 2, 4, 0, 0, 0), (2, .ifCond .lt 10, 5, 12, 0, 0, 0), (5, .iload 4, 7, 4, 0, 0, 0), (7, .bipush 12, 9, 0, 0, 12, 0), (9, .if_icmp .le 8, 12, 17, 0, 0, 0), (12, .bipush (-2), 14, 0, 0, -2, 0), (14, .goto 10, 24, 0, 0, 0, 0), (17, .aload_n 0, 18, 0, 0, 0, 0), (18, .iload_n 1, 19, 1, 0, 0, 0), (19, .iload_n 2, 20, 2, 0, 0, 0), (20, .iload_n 3, 21, 3, 0, 0, 0), (21, .invokevirtual 215, 24, 3, 0, 0, 0), (24, .istore 5, 26, 5, 0, 0, 0), (26, .iload 5, 28, 5, 0, 0, 0), (28, .ifCond .eq 10, 31, 38, 0, 0, 0), (31, .aload_n 0, 32, 0, 0, 0, 0), (32, .iload 5, 34, 5, 0, 0, 0), (34, .invokevirtual 103, 37, 1, 0, 0, 0), (37, .ireturn, 38, 0, 0, 0, 0), (38, .aload_n 0, 39, 0, 0, 0, 0), (39, .aload_n 0, 40, 0, 0, 0, 0), (40, .getfield 67, 43, 10, 10, 0, 0), (43, .aload_n 0, 44, 0, 0, 0, 0), (44, .getfield 39, 47, 10, 6, 0, 0), (47, .iload_n 1, 48, 1, 0, 0, 0), (48, .aaload, 49, 0, 0, 0, 0), (49, .aload_n 0, 50, 0, 0, 0, 0), (50, .getfield 19, 53, 10, 1, 0, 0), (53, .iload_n 2, 54, 2, 0, 0, 0), (54, .iload_n 3, 55, 3, 0, 0, 0), (55, .iload 4, 57, 4, 0, 0, 0), (57, .invokevirtual 207, 60, 5, 0, 0, 0), (60, .invokevirtual 191, 63, 1, 0, 0, 0), (63, .ireturn, 64, 0, 0, 0, 0)]
abbrev mX10_count : MD := (yX10_count, cX10_count, 6, (some .int), { frames := 6, cells := 0, slots := 0, locals := 152 }, tbX10_count)
def tbX10_route : List (Nat × En) := [(0, .iload 4, 2, 4, 0, 0, 0), (2, .ifCond .lt 14, 5, 16, 0, 0, 0), (5, .iload 5, 7, 5, 0, 0, 0), (7, .ifCond .lt 9, 10, 16, 0, 0, 0), (10, .iload 5, 12, 5, 0, 0, 0), (12, .iconst 2, 13, 0, 0, 2, 0), (13, .if_icmp .le 8, 16, 21, 0, 0, 0), (16, .bipush (-2), 18, 0, 0, -2, 0), (18, .goto 10, 28, 0, 0, 0, 0), (21, .aload_n 0, 22, 0, 0, 0, 0), (22, .iload_n 1, 23, 1, 0, 0, 0), (23, .iload_n 2, 24, 2, 0, 0, 0), (24, .iload_n 3, 25, 3, 0, 0, 0), (25, .invokevirtual 215, 28, 3, 0, 0, 0), (28, .istore 6, 30, 6, 0, 0, 0), (30, .iload 6, 32, 6, 0, 0, 0), (32, .ifCond .eq 10, 35, 42, 0, 0, 0), (35, .aload_n 0, 36, 0, 0, 0, 0), (36, .iload 6, 38, 6, 0, 0, 0), (38, .invokevirtual 103, 41, 1, 0, 0, 0), (41, .ireturn, 42, 0, 0, 0, 0), (42, .aload_n 0, 43, 0, 0, 0, 0), (43, .getfield 60, 46, 10, 9, 0, 0), (46, .aload_n 0, 47, 0, 0, 0, 0), (47, .getfield 39, 50, 10, 6, 0, 0), (50, .iload_n 1, 51, 1, 0, 0, 0), (51, .aaload, 52, 0, 0, 0, 0), (52, .aload_n 0, 53, 0, 0, 0, 0), (53, .getfield 19, 56, 10, 1, 0, 0), (56, .iload_n 2, 57, 2, 0, 0, 0), (57, .iload_n 3, 58, 3, 0, 0, 0), (58, .invokevirtual 230, 61, 4, 0, 0, 0), (61, .istore 7, 63, 7, 0, 0, 0), (63, .iload 4, 65, 4, 0, 0, 0), (65, .iload 7, 67, 7, 0, 0, 0), (67, .if_icmp .lt 5, 70, 72, 0, 0, 0), (70, .iconst (-1), 71, 0, 0, -1, 0), (71, .ireturn, 72, 0, 0, 0, 0), (72, .aload_n 0, 73, 0, 0, 0, 0), (73, .getfield 60, 76, 10, 9, 0, 0), (76, .getfield 233, 79, 5, 2, 0, 0), (79, .iload 4, 81, 4, 0, 0, 0), (81, .iaload, 82, 0, 0, 0, 0), (82, .istore 8, 84, 8, 0, 0, 0), (84, .iload 5, 86, 5, 0, 0, 0), (86, .ifCond .ne 14, 89, 100, 0, 0, 0), (89, .aload_n 0, 90, 0, 0, 0, 0), (90, .getfield 19, 93, 10, 1, 0, 0), (93, .getfield 236, 96, 7, 3, 0, 0), (96, .iload 8, 98, 8, 0, 0, 0), (98, .iaload, 99, 0, 0, 0, 0), (99, .ireturn, 100, 0, 0, 0, 0), (100, .iload 5, 102, 5, 0, 0, 0), (102, .iconst 1, 103, 0, 0, 1, 0), (103, .if_icmp .ne 18, 106, 121, 0, 0, 0), (106, .aload_n 0, 107, 0, 0, 0, 0), (107, .getfield 19, 110, 10, 1, 0, 0), (110, .getfield 239, 113, 7, 1, 0, 0), (113, .iload 8, 115, 8, 0, 0, 0), (115, .iaload, 116, 0, 0, 0, 0), (116, .iconst 4, 117, 0, 0, 4, 0), (117, .idiv, 118, 0, 0, 0, 0), (118, .goto 13, 131, 0, 0, 0, 0), (121, .aload_n 0, 122, 0, 0, 0, 0), (122, .getfield 19, 125, 10, 1, 0, 0), (125, .getfield 242, 128, 7, 2, 0, 0), (128, .iload 8, 130, 8, 0, 0, 0), (130, .iaload, 131, 0, 0, 0, 0), (131, .ireturn, 132, 0, 0, 0, 0)]
abbrev mX10_route : MD := (yX10_route, cX10_route, 9, (some .int), { frames := 4, cells := 0, slots := 0, locals := 107 }, tbX10_route)
def tbX10_isAnswerWithout : List (Nat × En) := [(0, .aload_n 0, 1, 0, 0, 0, 0), (1, .getfield 12, 4, 10, 0, 0, 0), (4, .aload_n 0, 5, 0, 0, 0, 0), (5, .getfield 23, 8, 10, 2, 0, 0), (8, .iload 4, 10, 4, 0, 0, 0), (10, .invokevirtual 280, 13, 2, 0, 0, 0), (13, .aload_n 0, 14, 0, 0, 0, 0), (14, .getfield 53, 17, 10, 8, 0, 0), (17, .aload_n 1, 18, 1, 0, 0, 0), (18, .aload_n 0, 19, 0, 0, 0, 0), (19, .getfield 23, 22, 10, 2, 0, 0), (22, .iload_n 2, 23, 2, 0, 0, 0), (23, .invokevirtual 219, 26, 3, 0, 0, 0), (26, .iload_n 3, 27, 3, 0, 0, 0), (27, .ishr, 28, 0, 0, 0, 0), (28, .iconst 1, 29, 0, 0, 1, 0), (29, .iand, 30, 0, 0, 0, 0), (30, .ifCond .eq 7, 33, 37, 0, 0, 0), (33, .iconst 1, 34, 0, 0, 1, 0), (34, .goto 4, 38, 0, 0, 0, 0), (37, .iconst 0, 38, 0, 0, 0, 0), (38, .ireturn, 39, 0, 0, 0, 0)]
abbrev mX10_isAnswerWithout : MD := (yX10_isAnswerWithout, cX10_isAnswerWithout, 5, (some .boolean), { frames := 3, cells := 0, slots := 0, locals := 75 }, tbX10_isAnswerWithout)
def tbX10_bridge : List (Nat × En) := [(0, .aload_n 0, 1, 0, 0, 0, 0), (1, .iload_n 1, 2, 1, 0, 0, 0), (2, .iload_n 2, 3, 2, 0, 0, 0), (3, .iload_n 3, 4, 3, 0, 0, 0), (4, .invokevirtual 215, 7, 3, 0, 0, 0), (7, .istore 4, 9, 4, 0, 0, 0), (9, .iload 4, 11, 4, 0, 0, 0), (11, .ifCond .eq 10, 14, 21, 0, 0, 0), (14, .aload_n 0, 15, 0, 0, 0, 0), (15, .iload 4, 17, 4, 0, 0, 0), (17, .invokevirtual 103, 20, 1, 0, 0, 0), (20, .ireturn, 21, 0, 0, 0, 0), (21, .aload_n 0, 22, 0, 0, 0, 0), (22, .getfield 60, 25, 10, 9, 0, 0), (25, .aload_n 0, 26, 0, 0, 0, 0), (26, .getfield 39, 29, 10, 6, 0, 0), (29, .iload_n 1, 30, 1, 0, 0, 0), (30, .aaload, 31, 0, 0, 0, 0), (31, .aload_n 0, 32, 0, 0, 0, 0), (32, .getfield 19, 35, 10, 1, 0, 0), (35, .iload_n 2, 36, 2, 0, 0, 0), (36, .iload_n 3, 37, 3, 0, 0, 0), (37, .invokevirtual 230, 40, 4, 0, 0, 0), (40, .istore 5, 42, 5, 0, 0, 0), (42, .iconst 0, 43, 0, 0, 0, 0), (43, .istore 6, 45, 6, 0, 0, 0), (45, .iconst 0, 46, 0, 0, 0, 0), (46, .istore 7, 48, 7, 0, 0, 0), (48, .iload 7, 50, 7, 0, 0, 0), (50, .iload 5, 52, 5, 0, 0, 0), (52, .if_icmp .ge 34, 55, 86, 0, 0, 0), (55, .iload 6, 57, 6, 0, 0, 0), (57, .iconst 1, 58, 0, 0, 1, 0), (58, .aload_n 0, 59, 0, 0, 0, 0), (59, .getfield 19, 62, 10, 1, 0, 0), (62, .getfield 236, 65, 7, 3, 0, 0), (65, .aload_n 0, 66, 0, 0, 0, 0), (66, .getfield 60, 69, 10, 9, 0, 0), (69, .getfield 233, 72, 5, 2, 0, 0), (72, .iload 7, 74, 7, 0, 0, 0), (74, .iaload, 75, 0, 0, 0, 0), (75, .iaload, 76, 0, 0, 0, 0), (76, .ishl, 77, 0, 0, 0, 0), (77, .ior, 78, 0, 0, 0, 0), (78, .istore 6, 80, 6, 0, 0, 0), (80, .iinc 7 1, 83, 7, 0, 1, 0), (83, .goto (-35), 48, 0, 0, 0, 0), (86, .iconst 0, 87, 0, 0, 0, 0), (87, .istore 7, 89, 7, 0, 0, 0), (89, .iload 7, 91, 7, 0, 0, 0), (91, .aload_n 0, 92, 0, 0, 0, 0), (92, .getfield 12, 95, 10, 0, 0, 0), (95, .getfield 111, 98, 1, 3, 0, 0), (98, .if_icmp .ge 39, 101, 137, 0, 0, 0), (101, .iload 6, 103, 6, 0, 0, 0), (103, .iload 7, 105, 7, 0, 0, 0), (105, .ishr, 106, 0, 0, 0, 0), (106, .iconst 1, 107, 0, 0, 1, 0), (107, .iand, 108, 0, 0, 0, 0), (108, .ifCond .eq 23, 111, 131, 0, 0, 0), (111, .aload_n 0, 112, 0, 0, 0, 0), (112, .aload_n 0, 113, 0, 0, 0, 0), (113, .getfield 39, 116, 10, 6, 0, 0), (116, .iload_n 1, 117, 1, 0, 0, 0), (117, .aaload, 118, 0, 0, 0, 0), (118, .iload_n 2, 119, 2, 0, 0, 0), (119, .iload_n 3, 120, 3, 0, 0, 0), (120, .iload 7, 122, 7, 0, 0, 0), (122, .invokevirtual 243, 125, 4, 0, 0, 0), (125, .ifCond .ne 6, 128, 131, 0, 0, 0), (128, .iload 7, 130, 7, 0, 0, 0), (130, .ireturn, 131, 0, 0, 0, 0), (131, .iinc 7 1, 134, 7, 0, 1, 0), (134, .goto (-45), 89, 0, 0, 0, 0), (137, .iconst (-1), 138, 0, 0, -1, 0), (138, .ireturn, 139, 0, 0, 0, 0)]
abbrev mX10_bridge : MD := (yX10_bridge, cX10_bridge, 8, (some .int), { frames := 4, cells := 0, slots := 0, locals := 107 }, tbX10_bridge)
def tbX10_stand : List (Nat × En) := [(0, .iload_n 1, 1, 1, 0, 0, 0), (1, .iconst (-1), 2, 0, 0, -1, 0), (2, .if_icmp .eq 17, 5, 19, 0, 0, 0), (5, .iload_n 1, 6, 1, 0, 0, 0), (6, .invokestatic 145, 9, 1, 0, 0, 0), (9, .ifCond .ne 10, 12, 19, 0, 0, 0), (12, .aload_n 0, 13, 0, 0, 0, 0), (13, .bipush (-2), 15, 0, 0, -2, 0), (15, .invokevirtual 103, 18, 1, 0, 0, 0), (18, .ireturn, 19, 0, 0, 0, 0), (19, .iload_n 1, 20, 1, 0, 0, 0), (20, .iconst (-1), 21, 0, 0, -1, 0), (21, .if_icmp .eq 22, 24, 43, 0, 0, 0), (24, .aload_n 0, 25, 0, 0, 0, 0), (25, .getfield 39, 28, 10, 6, 0, 0), (28, .iload_n 1, 29, 1, 0, 0, 0), (29, .aaload, 30, 0, 0, 0, 0), (30, .getfield 169, 33, 2, 4, 0, 0), (33, .ifCond .ne 10, 36, 43, 0, 0, 0), (36, .aload_n 0, 37, 0, 0, 0, 0), (37, .bipush (-3), 39, 0, 0, -3, 0), (39, .invokevirtual 103, 42, 1, 0, 0, 0), (42, .ireturn, 43, 0, 0, 0, 0), (43, .aload_n 0, 44, 0, 0, 0, 0), (44, .getfield 81, 47, 10, 12, 0, 0), (47, .iload_n 1, 48, 1, 0, 0, 0), (48, .putfield 160, 51, 6, 1, 0, 0), (51, .aload_n 0, 52, 0, 0, 0, 0), (52, .getfield 81, 55, 10, 12, 0, 0), (55, .iconst 0, 56, 0, 0, 0, 0), (56, .putfield 123, 59, 6, 2, 0, 0), (59, .aload_n 0, 60, 0, 0, 0, 0), (60, .getfield 81, 63, 10, 12, 0, 0), (63, .iconst 0, 64, 0, 0, 0, 0), (64, .putfield 133, 67, 6, 3, 0, 0), (67, .aload_n 0, 68, 0, 0, 0, 0), (68, .invokevirtual 163, 71, 0, 0, 0, 0), (71, .aload_n 0, 72, 0, 0, 0, 0), (72, .getfield 81, 75, 10, 12, 0, 0), (75, .invokevirtual 114, 78, 0, 0, 0, 0), (78, .ireturn, 79, 0, 0, 0, 0)]
abbrev mX10_stand : MD := (yX10_stand, cX10_stand, 2, (some .int), { frames := 4, cells := 0, slots := 0, locals := 96 }, tbX10_stand)
def tbX10_standing : List (Nat × En) := [(0, .iload_n 1, 1, 1, 0, 0, 0), (1, .tableswitch 63 0 3 #[31, 39, 47, 55], 32, 0, 31, 0, 0), (32, .aload_n 0, 33, 0, 0, 0, 0), (33, .getfield 81, 36, 10, 12, 0, 0), (36, .getfield 160, 39, 6, 1, 0, 0), (39, .ireturn, 40, 0, 0, 0, 0), (40, .aload_n 0, 41, 0, 0, 0, 0), (41, .getfield 81, 44, 10, 12, 0, 0), (44, .invokevirtual 114, 47, 0, 0, 0, 0), (47, .ireturn, 48, 0, 0, 0, 0), (48, .aload_n 0, 49, 0, 0, 0, 0), (49, .getfield 81, 52, 10, 12, 0, 0), (52, .getfield 123, 55, 6, 2, 0, 0), (55, .ireturn, 56, 0, 0, 0, 0), (56, .aload_n 0, 57, 0, 0, 0, 0), (57, .getfield 81, 60, 10, 12, 0, 0), (60, .getfield 133, 63, 6, 3, 0, 0), (63, .ireturn, 64, 0, 0, 0, 0), (64, .aload_n 0, 65, 0, 0, 0, 0), (65, .bipush (-2), 67, 0, 0, -2, 0), (67, .invokevirtual 103, 70, 1, 0, 0, 0), (70, .ireturn, 71, 0, 0, 0, 0)]
abbrev mX10_standing : MD := (yX10_standing, cX10_standing, 2, (some .int), { frames := 2, cells := 0, slots := 0, locals := 42 }, tbX10_standing)
def tbX10_kept : List (Nat × En) := [(0, .iload_n 1, 1, 1, 0, 0, 0), (1, .invokestatic 99, 4, 1, 0, 0, 0), (4, .ifCond .eq 10, 7, 14, 0, 0, 0), (7, .iload_n 2, 8, 2, 0, 0, 0), (8, .invokestatic 99, 11, 1, 0, 0, 0), (11, .ifCond .ne 10, 14, 21, 0, 0, 0), (14, .aload_n 0, 15, 0, 0, 0, 0), (15, .bipush (-2), 17, 0, 0, -2, 0), (17, .invokevirtual 103, 20, 1, 0, 0, 0), (20, .ireturn, 21, 0, 0, 0, 0), (21, .aload_n 0, 22, 0, 0, 0, 0), (22, .getfield 81, 25, 10, 12, 0, 0), (25, .getfield 160, 28, 6, 1, 0, 0), (28, .iconst (-1), 29, 0, 0, -1, 0), (29, .if_icmp .ne 10, 32, 39, 0, 0, 0), (32, .aload_n 0, 33, 0, 0, 0, 0), (33, .bipush (-3), 35, 0, 0, -3, 0), (35, .invokevirtual 103, 38, 1, 0, 0, 0), (38, .ireturn, 39, 0, 0, 0, 0), (39, .aload_n 0, 40, 0, 0, 0, 0), (40, .getfield 81, 43, 10, 12, 0, 0), (43, .getfield 247, 46, 6, 0, 0, 0), (46, .iload_n 1, 47, 1, 0, 0, 0), (47, .iaload, 48, 0, 0, 0, 0), (48, .iload_n 2, 49, 2, 0, 0, 0), (49, .ishr, 50, 0, 0, 0, 0), (50, .iconst 1, 51, 0, 0, 1, 0), (51, .iand, 52, 0, 0, 0, 0), (52, .ireturn, 53, 0, 0, 0, 0)]
abbrev mX10_kept : MD := (yX10_kept, cX10_kept, 3, (some .int), { frames := 1, cells := 0, slots := 0, locals := 21 }, tbX10_kept)
def tbX10_draw : List (Nat × En) := [(0, .iload_n 1, 1, 1, 0, 0, 0), (1, .ifCond .lt 19, 4, 20, 0, 0, 0), (4, .iload_n 1, 5, 1, 0, 0, 0), (5, .ldc 250, 7, 0, 0, 1000000, 0), (7, .if_icmp .ge 13, 10, 20, 0, 0, 0), (10, .iload_n 2, 11, 2, 0, 0, 0), (11, .ifCond .lt 9, 14, 20, 0, 0, 0), (14, .iload_n 2, 15, 2, 0, 0, 0), (15, .bipush 30, 17, 0, 0, 30, 0), (17, .if_icmp .le 10, 20, 27, 0, 0, 0), (20, .aload_n 0, 21, 0, 0, 0, 0), (21, .bipush (-2), 23, 0, 0, -2, 0), (23, .invokevirtual 103, 26, 1, 0, 0, 0), (26, .ireturn, 27, 0, 0, 0, 0), (27, .aload_n 0, 28, 0, 0, 0, 0), (28, .getfield 12, 31, 10, 0, 0, 0), (31, .iconst 0, 32, 0, 0, 0, 0), (32, .putfield 111, 35, 1, 3, 0, 0), (35, .iload_n 1, 36, 1, 0, 0, 0), (36, .i2l, 37, 0, 0, 0, 0), (37, .lstore_n 3, 38, 3, 0, 0, 0), (38, .iconst 0, 39, 0, 0, 0, 0), (39, .istore 5, 41, 5, 0, 0, 0), (41, .iload 5, 43, 5, 0, 0, 0), (43, .iload_n 2, 44, 2, 0, 0, 0), (44, .if_icmp .ge 88, 47, 132, 0, 0, 0), (47, .lload_n 3, 48, 3, 0, 0, 0), (48, .ldc2_w 251, 51, 0, 0, 0, 1103515245), (51, .lmul, 52, 0, 0, 0, 0), (52, .ldc2_w 253, 55, 0, 0, 0, 12345), (55, .ladd, 56, 0, 0, 0, 0), (56, .ldc2_w 255, 59, 0, 0, 0, 2147483648), (59, .lrem, 60, 0, 0, 0, 0), (60, .lstore_n 3, 61, 3, 0, 0, 0), (61, .lload_n 3, 62, 3, 0, 0, 0), (62, .ldc2_w 257, 65, 0, 0, 0, 65536), (65, .ldiv, 66, 0, 0, 0, 0), (66, .ldc2_w 259, 69, 0, 0, 0, 10), (69, .lrem, 70, 0, 0, 0, 0), (70, .l2i, 71, 0, 0, 0, 0), (71, .istore 6, 73, 6, 0, 0, 0), (73, .lload_n 3, 74, 3, 0, 0, 0), (74, .ldc2_w 261, 77, 0, 0, 0, 1024), (77, .ldiv, 78, 0, 0, 0, 0), (78, .ldc2_w 263, 81, 0, 0, 0, 4), (81, .lrem, 82, 0, 0, 0, 0), (82, .l2i, 83, 0, 0, 0, 0), (83, .istore 7, 85, 7, 0, 0, 0), (85, .lload_n 3, 86, 3, 0, 0, 0), (86, .ldc2_w 265, 89, 0, 0, 0, 4096), (89, .ldiv, 90, 0, 0, 0, 0), (90, .ldc2_w 259, 93, 0, 0, 0, 10), (93, .lrem, 94, 0, 0, 0, 0), (94, .l2i, 95, 0, 0, 0, 0), (95, .istore 8, 97, 8, 0, 0, 0), (97, .aload_n 0, 98, 0, 0, 0, 0), (98, .getfield 12, 101, 10, 0, 0, 0), (101, .iload 6, 103, 6, 0, 0, 0), (103, .iload 7, 105, 7, 0, 0, 0), (105, .iload 8, 107, 8, 0, 0, 0), (107, .invokevirtual 107, 110, 3, 0, 0, 0), (110, .ifCond .ne 16, 113, 126, 0, 0, 0), (113, .aload_n 0, 114, 0, 0, 0, 0), (114, .getfield 12, 117, 10, 0, 0, 0), (117, .iload 6, 119, 6, 0, 0, 0), (119, .iload 7, 121, 7, 0, 0, 0), (121, .iload 8, 123, 8, 0, 0, 0), (123, .invokevirtual 117, 126, 3, 0, 0, 0), (126, .iinc 5 1, 129, 5, 0, 1, 0), (129, .goto (-88), 41, 0, 0, 0, 0), (132, .aload_n 0, 133, 0, 0, 0, 0), (133, .invokevirtual 120, 136, 0, 0, 0, 0), (136, .aload_n 0, 137, 0, 0, 0, 0), (137, .getfield 12, 140, 10, 0, 0, 0), (140, .getfield 111, 143, 1, 3, 0, 0), (143, .ireturn, 144, 0, 0, 0, 0)]
abbrev mX10_draw : MD := (yX10_draw, cX10_draw, 9, (some .int), { frames := 5, cells := 0, slots := 0, locals := 116 }, tbX10_draw)
def tbX10_placesOfAll : List (Nat × En) := [(0, .iconst 0, 1, 0, 0, 0, 0), (1, .istore_n 1, 2, 1, 0, 0, 0), (2, .iconst 0, 3, 0, 0, 0, 0), (3, .istore_n 2, 4, 2, 0, 0, 0), (4, .iload_n 2, 5, 2, 0, 0, 0), (5, .iconst 4, 6, 0, 0, 4, 0), (6, .if_icmp .ge 21, 9, 27, 0, 0, 0), (9, .iload_n 1, 10, 1, 0, 0, 0), (10, .aload_n 0, 11, 0, 0, 0, 0), (11, .getfield 39, 14, 10, 6, 0, 0), (14, .iload_n 2, 15, 2, 0, 0, 0), (15, .aaload, 16, 0, 0, 0, 0), (16, .getfield 166, 19, 2, 3, 0, 0), (19, .iadd, 20, 0, 0, 0, 0), (20, .istore_n 1, 21, 1, 0, 0, 0), (21, .iinc 2 1, 24, 2, 0, 1, 0), (24, .goto (-20), 4, 0, 0, 0, 0), (27, .iload_n 1, 28, 1, 0, 0, 0), (28, .ireturn, 29, 0, 0, 0, 0)]
abbrev mX10_placesOfAll : MD := (yX10_placesOfAll, cX10_placesOfAll, 3, (some .int), { frames := 0, cells := 0, slots := 0, locals := 0 }, tbX10_placesOfAll)
def tbX10_told : List (Nat × En) := [(0, .iload_n 1, 1, 1, 0, 0, 0), (1, .tableswitch 84 0 6 #[43, 48, 53, 58, 63, 71, 76], 44, 0, 43, 0, 0), (44, .aload_n 0, 45, 0, 0, 0, 0), (45, .getfield 85, 48, 10, 13, 0, 0), (48, .ireturn, 49, 0, 0, 0, 0), (49, .aload_n 0, 50, 0, 0, 0, 0), (50, .getfield 88, 53, 10, 14, 0, 0), (53, .ireturn, 54, 0, 0, 0, 0), (54, .aload_n 0, 55, 0, 0, 0, 0), (55, .getfield 91, 58, 10, 15, 0, 0), (58, .ireturn, 59, 0, 0, 0, 0), (59, .aload_n 0, 60, 0, 0, 0, 0), (60, .getfield 33, 63, 10, 5, 0, 0), (63, .ireturn, 64, 0, 0, 0, 0), (64, .aload_n 0, 65, 0, 0, 0, 0), (65, .getfield 12, 68, 10, 0, 0, 0), (68, .getfield 111, 71, 1, 3, 0, 0), (71, .ireturn, 72, 0, 0, 0, 0), (72, .aload_n 0, 73, 0, 0, 0, 0), (73, .invokevirtual 267, 76, 0, 0, 0, 0), (76, .ireturn, 77, 0, 0, 0, 0), (77, .aload_n 0, 78, 0, 0, 0, 0), (78, .getfield 81, 81, 10, 12, 0, 0), (81, .getfield 160, 84, 6, 1, 0, 0), (84, .ireturn, 85, 0, 0, 0, 0), (85, .aload_n 0, 86, 0, 0, 0, 0), (86, .bipush (-2), 88, 0, 0, -2, 0), (88, .invokevirtual 103, 91, 1, 0, 0, 0), (91, .ireturn, 92, 0, 0, 0, 0)]
abbrev mX10_told : MD := (yX10_told, cX10_told, 2, (some .int), { frames := 1, cells := 0, slots := 0, locals := 22 }, tbX10_told)
def tbX10_digest : List (Nat × En) := [(0, .ldc2_w 270, 3, 0, 0, 0, 1931), (3, .lstore_n 1, 4, 1, 0, 0, 0), (4, .iconst 0, 5, 0, 0, 0, 0), (5, .istore_n 3, 6, 3, 0, 0, 0), (6, .iload_n 3, 7, 3, 0, 0, 0), (7, .bipush 6, 9, 0, 0, 6, 0), (9, .if_icmp .gt 22, 12, 31, 0, 0, 0), (12, .ldc2_w 272, 15, 0, 0, 0, 31), (15, .lload_n 1, 16, 1, 0, 0, 0), (16, .lmul, 17, 0, 0, 0, 0), (17, .aload_n 0, 18, 0, 0, 0, 0), (18, .iload_n 3, 19, 3, 0, 0, 0), (19, .invokevirtual 274, 22, 1, 0, 0, 0), (22, .i2l, 23, 0, 0, 0, 0), (23, .ladd, 24, 0, 0, 0, 0), (24, .lstore_n 1, 25, 1, 0, 0, 0), (25, .iinc 3 1, 28, 3, 0, 1, 0), (28, .goto (-22), 6, 0, 0, 0, 0), (31, .iconst 0, 32, 0, 0, 0, 0), (32, .istore_n 3, 33, 3, 0, 0, 0), (33, .iload_n 3, 34, 3, 0, 0, 0), (34, .aload_n 0, 35, 0, 0, 0, 0), (35, .getfield 12, 38, 10, 0, 0, 0), (38, .getfield 111, 41, 1, 3, 0, 0), (41, .if_icmp .ge 60, 44, 101, 0, 0, 0), (44, .ldc2_w 272, 47, 0, 0, 0, 31), (47, .lload_n 1, 48, 1, 0, 0, 0), (48, .lmul, 49, 0, 0, 0, 0), (49, .aload_n 0, 50, 0, 0, 0, 0), (50, .getfield 12, 53, 10, 0, 0, 0), (53, .getfield 136, 56, 1, 0, 0, 0), (56, .iload_n 3, 57, 3, 0, 0, 0), (57, .iaload, 58, 0, 0, 0, 0), (58, .i2l, 59, 0, 0, 0, 0), (59, .ladd, 60, 0, 0, 0, 0), (60, .lstore_n 1, 61, 1, 0, 0, 0), (61, .ldc2_w 272, 64, 0, 0, 0, 31), (64, .lload_n 1, 65, 1, 0, 0, 0), (65, .lmul, 66, 0, 0, 0, 0), (66, .aload_n 0, 67, 0, 0, 0, 0), (67, .getfield 12, 70, 10, 0, 0, 0), (70, .getfield 139, 73, 1, 1, 0, 0), (73, .iload_n 3, 74, 3, 0, 0, 0), (74, .iaload, 75, 0, 0, 0, 0), (75, .i2l, 76, 0, 0, 0, 0), (76, .ladd, 77, 0, 0, 0, 0), (77, .lstore_n 1, 78, 1, 0, 0, 0), (78, .ldc2_w 272, 81, 0, 0, 0, 31), (81, .lload_n 1, 82, 1, 0, 0, 0), (82, .lmul, 83, 0, 0, 0, 0), (83, .aload_n 0, 84, 0, 0, 0, 0), (84, .getfield 12, 87, 10, 0, 0, 0), (87, .getfield 142, 90, 1, 2, 0, 0), (90, .iload_n 3, 91, 3, 0, 0, 0), (91, .iaload, 92, 0, 0, 0, 0), (92, .i2l, 93, 0, 0, 0, 0), (93, .ladd, 94, 0, 0, 0, 0), (94, .lstore_n 1, 95, 1, 0, 0, 0), (95, .iinc 3 1, 98, 3, 0, 1, 0), (98, .goto (-65), 33, 0, 0, 0, 0), (101, .iconst 0, 102, 0, 0, 0, 0), (102, .istore_n 3, 103, 3, 0, 0, 0), (103, .iload_n 3, 104, 3, 0, 0, 0), (104, .iconst 4, 105, 0, 0, 4, 0), (105, .if_icmp .ge 43, 108, 148, 0, 0, 0), (108, .ldc2_w 272, 111, 0, 0, 0, 31), (111, .lload_n 1, 112, 1, 0, 0, 0), (112, .lmul, 113, 0, 0, 0, 0), (113, .aload_n 0, 114, 0, 0, 0, 0), (114, .getfield 39, 117, 10, 6, 0, 0), (117, .iload_n 3, 118, 3, 0, 0, 0), (118, .aaload, 119, 0, 0, 0, 0), (119, .getfield 169, 122, 2, 4, 0, 0), (122, .ifCond .eq 16, 125, 138, 0, 0, 0), (125, .aload_n 0, 126, 0, 0, 0, 0), (126, .aload_n 0, 127, 0, 0, 0, 0), (127, .getfield 39, 130, 10, 6, 0, 0), (130, .iload_n 3, 131, 3, 0, 0, 0), (131, .aaload, 132, 0, 0, 0, 0), (132, .invokevirtual 223, 135, 1, 0, 0, 0), (135, .goto 4, 139, 0, 0, 0, 0), (138, .iconst (-1), 139, 0, 0, -1, 0), (139, .i2l, 140, 0, 0, 0, 0), (140, .ladd, 141, 0, 0, 0, 0), (141, .lstore_n 1, 142, 1, 0, 0, 0), (142, .iinc 3 1, 145, 3, 0, 1, 0), (145, .goto (-42), 103, 0, 0, 0, 0), (148, .iconst 1, 149, 0, 0, 1, 0), (149, .istore_n 3, 150, 3, 0, 0, 0), (150, .iload_n 3, 151, 3, 0, 0, 0), (151, .iconst 3, 152, 0, 0, 3, 0), (152, .if_icmp .gt 22, 155, 174, 0, 0, 0), (155, .ldc2_w 272, 158, 0, 0, 0, 31), (158, .lload_n 1, 159, 1, 0, 0, 0), (159, .lmul, 160, 0, 0, 0, 0), (160, .aload_n 0, 161, 0, 0, 0, 0), (161, .iload_n 3, 162, 3, 0, 0, 0), (162, .invokevirtual 277, 165, 1, 0, 0, 0), (165, .i2l, 166, 0, 0, 0, 0), (166, .ladd, 167, 0, 0, 0, 0), (167, .lstore_n 1, 168, 1, 0, 0, 0), (168, .iinc 3 1, 171, 3, 0, 1, 0), (171, .goto (-21), 150, 0, 0, 0, 0), (174, .lload_n 1, 175, 1, 0, 0, 0), (175, .lreturn, 176, 0, 0, 0, 0)]
abbrev mX10_digest : MD := (yX10_digest, cX10_digest, 4, (some .long), { frames := 4, cells := 0, slots := 0, locals := 98 }, tbX10_digest)
def tbX11_init : List (Nat × En) := [(0, .aload_n 0, 1, 0, 0, 0, 0), (1, .invokespecial 1, 4, 0, 0, 0, 0), (4, .aload_n 0, 5, 0, 0, 0, 0), (5, .bipush 90, 7, 0, 0, 90, 0), (7, .newarray .int, 9, 0, 0, 0, 0), (9, .putfield 7, 12, 11, 0, 0, 0), (12, .aload_n 0, 13, 0, 0, 0, 0), (13, .iconst 3, 14, 0, 0, 3, 0), (14, .newarray .int, 16, 0, 0, 0, 0), (16, .putfield 13, 19, 11, 2, 0, 0), (19, .aload_n 0, 20, 0, 0, 0, 0), (20, .bipush 80, 22, 0, 0, 80, 0), (22, .newarray .int, 24, 0, 0, 0, 0), (24, .putfield 16, 27, 11, 3, 0, 0), (27, .aload_n 0, 28, 0, 0, 0, 0), (28, .iconst 4, 29, 0, 0, 4, 0), (29, .newarray .int, 31, 0, 0, 0, 0), (31, .putfield 19, 34, 11, 5, 0, 0), (34, .aload_n 0, 35, 0, 0, 0, 0), (35, .bipush 100, 37, 0, 0, 100, 0), (37, .newarray .int, 39, 0, 0, 0, 0), (39, .putfield 22, 42, 11, 6, 0, 0), (42, .aload_n 0, 43, 0, 0, 0, 0), (43, .bipush 32, 45, 0, 0, 32, 0), (45, .newarray .int, 47, 0, 0, 0, 0), (47, .putfield 25, 50, 11, 7, 0, 0), (50, .aload_n 0, 51, 0, 0, 0, 0), (51, .iconst 4, 52, 0, 0, 4, 0), (52, .newarray .int, 54, 0, 0, 0, 0), (54, .putfield 28, 57, 11, 8, 0, 0), (57, .aload_n 0, 58, 0, 0, 0, 0), (58, .iconst (-1), 59, 0, 0, -1, 0), (59, .putfield 31, 62, 11, 9, 0, 0), (62, .aload_n 0, 63, 0, 0, 0, 0), (63, .bipush 10, 65, 0, 0, 10, 0), (65, .newarray .int, 67, 0, 0, 0, 0), (67, .putfield 35, 70, 11, 10, 0, 0), (70, .aload_n 0, 71, 0, 0, 0, 0), (71, .bipush 25, 73, 0, 0, 25, 0), (73, .newarray .int, 75, 0, 0, 0, 0), (75, .putfield 38, 78, 11, 13, 0, 0), (78, .aload_n 0, 79, 0, 0, 0, 0), (79, .bipush 8, 81, 0, 0, 8, 0), (81, .newarray .int, 83, 0, 0, 0, 0), (83, .putfield 41, 86, 11, 14, 0, 0), (86, .aload_n 0, 87, 0, 0, 0, 0), (87, .sipush 170, 90, 0, 0, 170, 0), (90, .newarray .int, 92, 0, 0, 0, 0), (92, .putfield 44, 95, 11, 17, 0, 0), (95, .aload_n 0, 96, 0, 0, 0, 0), (96, .bipush 90, 98, 0, 0, 90, 0), (98, .newarray .int, 100, 0, 0, 0, 0), (100, .putfield 47, 103, 11, 19, 0, 0), (103, .aload_n 0, 104, 0, 0, 0, 0), (104, .bipush 90, 106, 0, 0, 90, 0), (106, .newarray .int, 108, 0, 0, 0, 0), (108, .putfield 50, 111, 11, 20, 0, 0), (111, .aload_n 0, 112, 0, 0, 0, 0), (112, .bipush 90, 114, 0, 0, 90, 0), (114, .newarray .int, 116, 0, 0, 0, 0), (116, .putfield 53, 119, 11, 21, 0, 0), (119, .aload_n 0, 120, 0, 0, 0, 0), (120, .bipush 10, 122, 0, 0, 10, 0), (122, .newarray .int, 124, 0, 0, 0, 0), (124, .putfield 56, 127, 11, 23, 0, 0), (127, .aload_n 0, 128, 0, 0, 0, 0), (128, .bipush 10, 130, 0, 0, 10, 0), (130, .newarray .int, 132, 0, 0, 0, 0), (132, .putfield 59, 135, 11, 24, 0, 0), (135, .aload_n 0, 136, 0, 0, 0, 0), (136, .bipush 10, 138, 0, 0, 10, 0), (138, .newarray .int, 140, 0, 0, 0, 0), (140, .putfield 62, 143, 11, 25, 0, 0), (143, .aload_n 0, 144, 0, 0, 0, 0), (144, .sipush 2600, 147, 0, 0, 2600, 0), (147, .newarray .int, 149, 0, 0, 0, 0), (149, .putfield 65, 152, 11, 26, 0, 0), (152, .aload_n 0, 153, 0, 0, 0, 0), (153, .sipush 401, 156, 0, 0, 401, 0), (156, .newarray .int, 158, 0, 0, 0, 0), (158, .putfield 68, 161, 11, 27, 0, 0), (161, .aload_n 0, 162, 0, 0, 0, 0), (162, .sipush 401, 165, 0, 0, 401, 0), (165, .newarray .int, 167, 0, 0, 0, 0), (167, .putfield 71, 170, 11, 28, 0, 0), (170, .aload_n 0, 171, 0, 0, 0, 0), (171, .sipush 4000, 174, 0, 0, 4000, 0), (174, .newarray .long, 176, 0, 0, 0, 0), (176, .putfield 74, 179, 11, 30, 0, 0), (179, .aload_n 0, 180, 0, 0, 0, 0), (180, .sipush 4000, 183, 0, 0, 4000, 0), (183, .newarray .long, 185, 0, 0, 0, 0), (185, .putfield 78, 188, 11, 31, 0, 0), (188, .aload_n 0, 189, 0, 0, 0, 0), (189, .iconst (-1), 190, 0, 0, -1, 0), (190, .putfield 81, 193, 11, 32, 0, 0), (193, .iconst 0, 194, 0, 0, 0, 0), (194, .istore_n 1, 195, 1, 0, 0, 0), (195, .iload_n 1, 196, 1, 0, 0, 0), (196, .iconst 4, 197, 0, 0, 4, 0), (197, .if_icmp .ge 16, 200, 213, 0, 0, 0), (200, .aload_n 0, 201, 0, 0, 0, 0), (201, .getfield 19, 204, 11, 5, 0, 0), (204, .iload_n 1, 205, 1, 0, 0, 0), (205, .iconst (-1), 206, 0, 0, -1, 0), (206, .iastore, 207, 0, 0, 0, 0), (207, .iinc 1 1, 210, 1, 0, 1, 0), (210, .goto (-15), 195, 0, 0, 0, 0), (213, .return_, 214, 0, 0, 0, 0)]
abbrev mX11_init : MD := (yX11_init, cX11_init, 2, none, { frames := 1, cells := 22, slots := 12228, locals := 20 }, tbX11_init)
def tbX11_in : List (Nat × En) := [(0, .iload_n 0, 1, 0, 0, 0, 0), (1, .iload_n 1, 2, 1, 0, 0, 0), (2, .if_icmp .lt 12, 5, 14, 0, 0, 0), (5, .iload_n 0, 6, 0, 0, 0, 0), (6, .iload_n 2, 7, 2, 0, 0, 0), (7, .if_icmp .gt 7, 10, 14, 0, 0, 0), (10, .iconst 1, 11, 0, 0, 1, 0), (11, .goto 4, 15, 0, 0, 0, 0), (14, .iconst 0, 15, 0, 0, 0, 0), (15, .ireturn, 16, 0, 0, 0, 0)]
abbrev mX11_in : MD := (yX11_in, cX11_in, 3, (some .boolean), { frames := 0, cells := 0, slots := 0, locals := 0 }, tbX11_in)
def tbX11_refuses : List (Nat × En) := [(0, .aload_n 0, 1, 0, 0, 0, 0), (1, .getfield 13, 4, 11, 2, 0, 0), (4, .bipush (-2), 6, 0, 0, -2, 0), (6, .iload_n 1, 7, 1, 0, 0, 0), (7, .isub, 8, 0, 0, 0, 0), (8, .dup2, 9, 0, 0, 0, 0), (9, .iaload, 10, 0, 0, 0, 0), (10, .iconst 1, 11, 0, 0, 1, 0), (11, .iadd, 12, 0, 0, 0, 0), (12, .iastore, 13, 0, 0, 0, 0), (13, .iload_n 1, 14, 1, 0, 0, 0), (14, .ireturn, 15, 0, 0, 0, 0)]
abbrev mX11_refuses : MD := (yX11_refuses, cX11_refuses, 2, (some .int), { frames := 0, cells := 0, slots := 0, locals := 0 }, tbX11_refuses)
def tbX11_isVertex : List (Nat × En) := [(0, .iload_n 0, 1, 0, 0, 0, 0), (1, .iconst 0, 2, 0, 0, 0, 0), (2, .bipush 9, 4, 0, 0, 9, 0), (4, .invokestatic 84, 7, 3, 0, 0, 0), (7, .ireturn, 8, 0, 0, 0, 0)]
abbrev mX11_isVertex : MD := (yX11_isVertex, cX11_isVertex, 1, (some .boolean), { frames := 1, cells := 0, slots := 0, locals := 22 }, tbX11_isVertex)
def tbX11_isOne : List (Nat × En) := [(0, .iload_n 0, 1, 0, 0, 0, 0), (1, .iconst 0, 2, 0, 0, 0, 0), (2, .iconst 3, 3, 0, 0, 3, 0), (3, .invokestatic 84, 6, 3, 0, 0, 0), (6, .ireturn, 7, 0, 0, 0, 0)]
abbrev mX11_isOne : MD := (yX11_isOne, cX11_isOne, 1, (some .boolean), { frames := 1, cells := 0, slots := 0, locals := 22 }, tbX11_isOne)
def tbX11_ones : List (Nat × En) := [(0, .iconst 0, 1, 0, 0, 0, 0), (1, .istore_n 1, 2, 1, 0, 0, 0), (2, .iconst 0, 3, 0, 0, 0, 0), (3, .istore_n 2, 4, 2, 0, 0, 0), (4, .iload_n 2, 5, 2, 0, 0, 0), (5, .bipush 25, 7, 0, 0, 25, 0), (7, .if_icmp .ge 17, 10, 24, 0, 0, 0), (10, .iload_n 1, 11, 1, 0, 0, 0), (11, .iload_n 0, 12, 0, 0, 0, 0), (12, .iload_n 2, 13, 2, 0, 0, 0), (13, .ishr, 14, 0, 0, 0, 0), (14, .iconst 1, 15, 0, 0, 1, 0), (15, .iand, 16, 0, 0, 0, 0), (16, .iadd, 17, 0, 0, 0, 0), (17, .istore_n 1, 18, 1, 0, 0, 0), (18, .iinc 2 1, 21, 2, 0, 1, 0), (21, .goto (-17), 4, 0, 0, 0, 0), (24, .iload_n 1, 25, 1, 0, 0, 0), (25, .ireturn, 26, 0, 0, 0, 0)]
abbrev mX11_ones : MD := (yX11_ones, cX11_ones, 3, (some .int), { frames := 0, cells := 0, slots := 0, locals := 0 }, tbX11_ones)
def tbX11_fromOf : List (Nat × En) := [(0, .aload_n 0, 1, 0, 0, 0, 0), (1, .getfield 7, 4, 11, 0, 0, 0), (4, .iconst 3, 5, 0, 0, 3, 0), (5, .iload_n 1, 6, 1, 0, 0, 0), (6, .imul, 7, 0, 0, 0, 0), (7, .iaload, 8, 0, 0, 0, 0), (8, .ireturn, 9, 0, 0, 0, 0)]
abbrev mX11_fromOf : MD := (yX11_fromOf, cX11_fromOf, 2, (some .int), { frames := 0, cells := 0, slots := 0, locals := 0 }, tbX11_fromOf)
def tbX11_letterOf : List (Nat × En) := [(0, .aload_n 0, 1, 0, 0, 0, 0), (1, .getfield 7, 4, 11, 0, 0, 0), (4, .iconst 3, 5, 0, 0, 3, 0), (5, .iload_n 1, 6, 1, 0, 0, 0), (6, .imul, 7, 0, 0, 0, 0), (7, .iconst 1, 8, 0, 0, 1, 0), (8, .iadd, 9, 0, 0, 0, 0), (9, .iaload, 10, 0, 0, 0, 0), (10, .ireturn, 11, 0, 0, 0, 0)]
abbrev mX11_letterOf : MD := (yX11_letterOf, cX11_letterOf, 2, (some .int), { frames := 0, cells := 0, slots := 0, locals := 0 }, tbX11_letterOf)
def tbX11_toOf : List (Nat × En) := [(0, .aload_n 0, 1, 0, 0, 0, 0), (1, .getfield 7, 4, 11, 0, 0, 0), (4, .iconst 3, 5, 0, 0, 3, 0), (5, .iload_n 1, 6, 1, 0, 0, 0), (6, .imul, 7, 0, 0, 0, 0), (7, .iconst 2, 8, 0, 0, 2, 0), (8, .iadd, 9, 0, 0, 0, 0), (9, .iaload, 10, 0, 0, 0, 0), (10, .ireturn, 11, 0, 0, 0, 0)]
abbrev mX11_toOf : MD := (yX11_toOf, cX11_toOf, 2, (some .int), { frames := 0, cells := 0, slots := 0, locals := 0 }, tbX11_toOf)
def tbX11_isThere : List (Nat × En) := [(0, .iconst 0, 1, 0, 0, 0, 0), (1, .istore 4, 3, 4, 0, 0, 0), (3, .iconst 0, 4, 0, 0, 0, 0), (4, .istore 5, 6, 5, 0, 0, 0), (6, .iload 5, 8, 5, 0, 0, 0), (8, .aload_n 0, 9, 0, 0, 0, 0), (9, .getfield 88, 12, 11, 1, 0, 0), (12, .if_icmp .ge 51, 15, 63, 0, 0, 0), (15, .iload 4, 17, 4, 0, 0, 0), (17, .ifCond .ne 33, 20, 50, 0, 0, 0), (20, .aload_n 0, 21, 0, 0, 0, 0), (21, .iload 5, 23, 5, 0, 0, 0), (23, .invokevirtual 91, 26, 1, 0, 0, 0), (26, .iload_n 1, 27, 1, 0, 0, 0), (27, .if_icmp .ne 27, 30, 54, 0, 0, 0), (30, .aload_n 0, 31, 0, 0, 0, 0), (31, .iload 5, 33, 5, 0, 0, 0), (33, .invokevirtual 95, 36, 1, 0, 0, 0), (36, .iload_n 2, 37, 2, 0, 0, 0), (37, .if_icmp .ne 17, 40, 54, 0, 0, 0), (40, .aload_n 0, 41, 0, 0, 0, 0), (41, .iload 5, 43, 5, 0, 0, 0), (43, .invokevirtual 98, 46, 1, 0, 0, 0), (46, .iload_n 3, 47, 3, 0, 0, 0), (47, .if_icmp .ne 7, 50, 54, 0, 0, 0), (50, .iconst 1, 51, 0, 0, 1, 0), (51, .goto 4, 55, 0, 0, 0, 0), (54, .iconst 0, 55, 0, 0, 0, 0), (55, .istore 4, 57, 4, 0, 0, 0), (57, .iinc 5 1, 60, 5, 0, 1, 0), (60, .goto (-54), 6, 0, 0, 0, 0), (63, .iload 4, 65, 4, 0, 0, 0), (65, .ireturn, 66, 0, 0, 0, 0)]
abbrev mX11_isThere : MD := (yX11_isThere, cX11_isThere, 6, (some .boolean), { frames := 1, cells := 0, slots := 0, locals := 21 }, tbX11_isThere)
def tbX11_adds : List (Nat × En) := [(0, .aload_n 0, 1, 0, 0, 0, 0), (1, .getfield 7, 4, 11, 0, 0, 0), (4, .iconst 3, 5, 0, 0, 3, 0), (5, .aload_n 0, 6, 0, 0, 0, 0), (6, .getfield 88, 9, 11, 1, 0, 0), (9, .imul, 10, 0, 0, 0, 0), (10, .iload_n 1, 11, 1, 0, 0, 0), (11, .iastore, 12, 0, 0, 0, 0), (12, .aload_n 0, 13, 0, 0, 0, 0), (13, .getfield 7, 16, 11, 0, 0, 0), (16, .iconst 3, 17, 0, 0, 3, 0), (17, .aload_n 0, 18, 0, 0, 0, 0), (18, .getfield 88, 21, 11, 1, 0, 0), (21, .imul, 22, 0, 0, 0, 0), (22, .iconst 1, 23, 0, 0, 1, 0), (23, .iadd, 24, 0, 0, 0, 0), (24, .iload_n 2, 25, 2, 0, 0, 0), (25, .iastore, 26, 0, 0, 0, 0), (26, .aload_n 0, 27, 0, 0, 0, 0), (27, .getfield 7, 30, 11, 0, 0, 0), (30, .iconst 3, 31, 0, 0, 3, 0), (31, .aload_n 0, 32, 0, 0, 0, 0), (32, .getfield 88, 35, 11, 1, 0, 0), (35, .imul, 36, 0, 0, 0, 0), (36, .iconst 2, 37, 0, 0, 2, 0), (37, .iadd, 38, 0, 0, 0, 0), (38, .iload_n 3, 39, 3, 0, 0, 0), (39, .iastore, 40, 0, 0, 0, 0), (40, .aload_n 0, 41, 0, 0, 0, 0), (41, .dup, 42, 0, 0, 0, 0), (42, .getfield 88, 45, 11, 1, 0, 0), (45, .iconst 1, 46, 0, 0, 1, 0), (46, .iadd, 47, 0, 0, 0, 0), (47, .putfield 88, 50, 11, 1, 0, 0), (50, .return_, 51, 0, 0, 0, 0)]
abbrev mX11_adds : MD := (yX11_adds, cX11_adds, 4, none, { frames := 0, cells := 0, slots := 0, locals := 0 }, tbX11_adds)
def tbX11_goes : List (Nat × En) := [(0, .iconst 0, 1, 0, 0, 0, 0), (1, .istore 4, 3, 4, 0, 0, 0), (3, .iconst 0, 4, 0, 0, 0, 0), (4, .istore 5, 6, 5, 0, 0, 0), (6, .iload 5, 8, 5, 0, 0, 0), (8, .bipush 25, 10, 0, 0, 25, 0), (10, .if_icmp .ge 40, 13, 50, 0, 0, 0), (13, .iload 4, 15, 4, 0, 0, 0), (15, .iload_n 2, 16, 2, 0, 0, 0), (16, .iload 5, 18, 5, 0, 0, 0), (18, .ishr, 19, 0, 0, 0, 0), (19, .iconst 1, 20, 0, 0, 1, 0), (20, .iand, 21, 0, 0, 0, 0), (21, .iconst 1, 22, 0, 0, 1, 0), (22, .if_icmp .ne 18, 25, 40, 0, 0, 0), (25, .aload_n 0, 26, 0, 0, 0, 0), (26, .getfield 22, 29, 11, 6, 0, 0), (29, .bipush 25, 31, 0, 0, 25, 0), (31, .iload_n 1, 32, 1, 0, 0, 0), (32, .imul, 33, 0, 0, 0, 0), (33, .iload 5, 35, 5, 0, 0, 0), (35, .iadd, 36, 0, 0, 0, 0), (36, .iaload, 37, 0, 0, 0, 0), (37, .goto 4, 41, 0, 0, 0, 0), (40, .iconst 0, 41, 0, 0, 0, 0), (41, .ior, 42, 0, 0, 0, 0), (42, .istore 4, 44, 4, 0, 0, 0), (44, .iinc 5 1, 47, 5, 0, 1, 0), (47, .goto (-41), 6, 0, 0, 0, 0), (50, .iload 4, 52, 4, 0, 0, 0), (52, .aload_n 0, 53, 0, 0, 0, 0), (53, .getfield 25, 56, 11, 7, 0, 0), (56, .bipush 8, 58, 0, 0, 8, 0), (58, .iload_n 1, 59, 1, 0, 0, 0), (59, .imul, 60, 0, 0, 0, 0), (60, .iload_n 3, 61, 3, 0, 0, 0), (61, .iadd, 62, 0, 0, 0, 0), (62, .iaload, 63, 0, 0, 0, 0), (63, .iand, 64, 0, 0, 0, 0), (64, .ireturn, 65, 0, 0, 0, 0)]
abbrev mX11_goes : MD := (yX11_goes, cX11_goes, 6, (some .int), { frames := 0, cells := 0, slots := 0, locals := 0 }, tbX11_goes)
def tbX11_spreads : List (Nat × En) := [(0, .iconst 0, 1, 0, 0, 0, 0), (1, .istore_n 2, 2, 2, 0, 0, 0), (2, .iload_n 2, 3, 2, 0, 0, 0), (3, .bipush 10, 5, 0, 0, 10, 0), (5, .if_icmp .ge 16, 8, 21, 0, 0, 0), (8, .aload_n 0, 9, 0, 0, 0, 0), (9, .getfield 59, 12, 11, 24, 0, 0), (12, .iload_n 2, 13, 2, 0, 0, 0), (13, .iconst 0, 14, 0, 0, 0, 0), (14, .iastore, 15, 0, 0, 0, 0), (15, .iinc 2 1, 18, 2, 0, 1, 0), (18, .goto (-16), 2, 0, 0, 0, 0), (21, .iconst 0, 22, 0, 0, 0, 0), (22, .istore_n 2, 23, 2, 0, 0, 0), (23, .iload_n 2, 24, 2, 0, 0, 0), (24, .aload_n 0, 25, 0, 0, 0, 0), (25, .getfield 88, 28, 11, 1, 0, 0), (28, .if_icmp .ge 85, 31, 113, 0, 0, 0), (31, .iload_n 2, 32, 2, 0, 0, 0), (32, .aload_n 0, 33, 0, 0, 0, 0), (33, .getfield 81, 36, 11, 32, 0, 0), (36, .if_icmp .eq 71, 39, 107, 0, 0, 0), (39, .aload_n 0, 40, 0, 0, 0, 0), (40, .getfield 59, 43, 11, 24, 0, 0), (43, .aload_n 0, 44, 0, 0, 0, 0), (44, .iload_n 2, 45, 2, 0, 0, 0), (45, .invokevirtual 98, 48, 1, 0, 0, 0), (48, .dup2, 49, 0, 0, 0, 0), (49, .iaload, 50, 0, 0, 0, 0), (50, .aload_n 0, 51, 0, 0, 0, 0), (51, .iload_n 1, 52, 1, 0, 0, 0), (52, .aload_n 0, 53, 0, 0, 0, 0), (53, .getfield 56, 56, 11, 23, 0, 0), (56, .aload_n 0, 57, 0, 0, 0, 0), (57, .iload_n 2, 58, 2, 0, 0, 0), (58, .invokevirtual 91, 61, 1, 0, 0, 0), (61, .iaload, 62, 0, 0, 0, 0), (62, .aload_n 0, 63, 0, 0, 0, 0), (63, .iload_n 2, 64, 2, 0, 0, 0), (64, .invokevirtual 95, 67, 1, 0, 0, 0), (67, .invokevirtual 185, 70, 3, 0, 0, 0), (70, .ior, 71, 0, 0, 0, 0), (71, .iastore, 72, 0, 0, 0, 0), (72, .aload_n 0, 73, 0, 0, 0, 0), (73, .getfield 59, 76, 11, 24, 0, 0), (76, .aload_n 0, 77, 0, 0, 0, 0), (77, .iload_n 2, 78, 2, 0, 0, 0), (78, .invokevirtual 91, 81, 1, 0, 0, 0), (81, .dup2, 82, 0, 0, 0, 0), (82, .iaload, 83, 0, 0, 0, 0), (83, .aload_n 0, 84, 0, 0, 0, 0), (84, .iload_n 1, 85, 1, 0, 0, 0), (85, .aload_n 0, 86, 0, 0, 0, 0), (86, .getfield 56, 89, 11, 23, 0, 0), (89, .aload_n 0, 90, 0, 0, 0, 0), (90, .iload_n 2, 91, 2, 0, 0, 0), (91, .invokevirtual 98, 94, 1, 0, 0, 0), (94, .iaload, 95, 0, 0, 0, 0), (95, .aload_n 0, 96, 0, 0, 0, 0), (96, .iload_n 2, 97, 2, 0, 0, 0), (97, .invokevirtual 95, 100, 1, 0, 0, 0), (100, .iconst 4, 101, 0, 0, 4, 0), (101, .iadd, 102, 0, 0, 0, 0), (102, .invokevirtual 185, 105, 3, 0, 0, 0), (105, .ior, 106, 0, 0, 0, 0), (106, .iastore, 107, 0, 0, 0, 0), (107, .iinc 2 1, 110, 2, 0, 1, 0), (110, .goto (-87), 23, 0, 0, 0, 0), (113, .return_, 114, 0, 0, 0, 0)]
abbrev mX11_spreads : MD := (yX11_spreads, cX11_spreads, 3, none, { frames := 1, cells := 0, slots := 0, locals := 25 }, tbX11_spreads)
def tbX11_farOf : List (Nat × En) := [(0, .iconst 0, 1, 0, 0, 0, 0), (1, .istore 4, 3, 4, 0, 0, 0), (3, .iload 4, 5, 4, 0, 0, 0), (5, .bipush 10, 7, 0, 0, 10, 0), (7, .if_icmp .ge 42, 10, 49, 0, 0, 0), (10, .aload_n 0, 11, 0, 0, 0, 0), (11, .getfield 56, 14, 11, 23, 0, 0), (14, .iload 4, 16, 4, 0, 0, 0), (16, .iload 4, 18, 4, 0, 0, 0), (18, .iload_n 2, 19, 2, 0, 0, 0), (19, .if_icmp .ne 8, 22, 27, 0, 0, 0), (22, .ldc 184, 24, 0, 0, 16777216, 0), (24, .goto 4, 28, 0, 0, 0, 0), (27, .iconst 0, 28, 0, 0, 0, 0), (28, .iastore, 29, 0, 0, 0, 0), (29, .aload_n 0, 30, 0, 0, 0, 0), (30, .getfield 62, 33, 11, 25, 0, 0), (33, .iload 4, 35, 4, 0, 0, 0), (35, .aload_n 0, 36, 0, 0, 0, 0), (36, .getfield 56, 39, 11, 23, 0, 0), (39, .iload 4, 41, 4, 0, 0, 0), (41, .iaload, 42, 0, 0, 0, 0), (42, .iastore, 43, 0, 0, 0, 0), (43, .iinc 4 1, 46, 4, 0, 1, 0), (46, .goto (-43), 3, 0, 0, 0, 0), (49, .iconst 0, 50, 0, 0, 0, 0), (50, .istore 4, 52, 4, 0, 0, 0), (52, .iload 4, 54, 4, 0, 0, 0), (54, .sipush 260, 57, 0, 0, 260, 0), (57, .if_icmp .ge 126, 60, 183, 0, 0, 0), (60, .iload_n 3, 61, 3, 0, 0, 0), (61, .ifCond .lt 22, 64, 83, 0, 0, 0), (64, .aload_n 0, 65, 0, 0, 0, 0), (65, .getfield 56, 68, 11, 23, 0, 0), (68, .iload_n 3, 69, 3, 0, 0, 0), (69, .iaload, 70, 0, 0, 0, 0), (70, .aload_n 0, 71, 0, 0, 0, 0), (71, .getfield 28, 74, 11, 8, 0, 0), (74, .iload_n 1, 75, 1, 0, 0, 0), (75, .iaload, 76, 0, 0, 0, 0), (76, .iand, 77, 0, 0, 0, 0), (77, .ifCond .eq 6, 80, 83, 0, 0, 0), (80, .iload 4, 82, 4, 0, 0, 0), (82, .ireturn, 83, 0, 0, 0, 0), (83, .aload_n 0, 84, 0, 0, 0, 0), (84, .iload_n 1, 85, 1, 0, 0, 0), (85, .invokevirtual 215, 88, 1, 0, 0, 0), (88, .iconst 0, 89, 0, 0, 0, 0), (89, .istore 5, 91, 5, 0, 0, 0), (91, .iconst 0, 92, 0, 0, 0, 0), (92, .istore 6, 94, 6, 0, 0, 0), (94, .iload 6, 96, 6, 0, 0, 0), (96, .bipush 10, 98, 0, 0, 10, 0), (98, .if_icmp .ge 72, 101, 170, 0, 0, 0), (101, .aload_n 0, 102, 0, 0, 0, 0), (102, .getfield 56, 105, 11, 23, 0, 0), (105, .iload 6, 107, 6, 0, 0, 0), (107, .aload_n 0, 108, 0, 0, 0, 0), (108, .getfield 59, 111, 11, 24, 0, 0), (111, .iload 6, 113, 6, 0, 0, 0), (113, .iaload, 114, 0, 0, 0, 0), (114, .aload_n 0, 115, 0, 0, 0, 0), (115, .getfield 62, 118, 11, 25, 0, 0), (118, .iload 6, 120, 6, 0, 0, 0), (120, .iaload, 121, 0, 0, 0, 0), (121, .iconst (-1), 122, 0, 0, -1, 0), (122, .ixor, 123, 0, 0, 0, 0), (123, .iand, 124, 0, 0, 0, 0), (124, .iastore, 125, 0, 0, 0, 0), (125, .aload_n 0, 126, 0, 0, 0, 0), (126, .getfield 62, 129, 11, 25, 0, 0), (129, .iload 6, 131, 6, 0, 0, 0), (131, .dup2, 132, 0, 0, 0, 0), (132, .iaload, 133, 0, 0, 0, 0), (133, .aload_n 0, 134, 0, 0, 0, 0), (134, .getfield 59, 137, 11, 24, 0, 0), (137, .iload 6, 139, 6, 0, 0, 0), (139, .iaload, 140, 0, 0, 0, 0), (140, .ior, 141, 0, 0, 0, 0), (141, .iastore, 142, 0, 0, 0, 0), (142, .iload 5, 144, 5, 0, 0, 0), (144, .ifCond .ne 13, 147, 157, 0, 0, 0), (147, .aload_n 0, 148, 0, 0, 0, 0), (148, .getfield 56, 151, 11, 23, 0, 0), (151, .iload 6, 153, 6, 0, 0, 0), (153, .iaload, 154, 0, 0, 0, 0), (154, .ifCond .eq 7, 157, 161, 0, 0, 0), (157, .iconst 1, 158, 0, 0, 1, 0), (158, .goto 4, 162, 0, 0, 0, 0), (161, .iconst 0, 162, 0, 0, 0, 0), (162, .istore 5, 164, 5, 0, 0, 0), (164, .iinc 6 1, 167, 6, 0, 1, 0), (167, .goto (-73), 94, 0, 0, 0, 0), (170, .iload 5, 172, 5, 0, 0, 0), (172, .ifCond .ne 5, 175, 177, 0, 0, 0), (175, .iconst (-1), 176, 0, 0, -1, 0), (176, .ireturn, 177, 0, 0, 0, 0), (177, .iinc 4 1, 180, 4, 0, 1, 0), (180, .goto (-128), 52, 0, 0, 0, 0), (183, .iconst (-1), 184, 0, 0, -1, 0), (184, .ireturn, 185, 0, 0, 0, 0)]
abbrev mX11_farOf : MD := (yX11_farOf, cX11_farOf, 7, (some .int), { frames := 2, cells := 0, slots := 0, locals := 47 }, tbX11_farOf)
def tbX11_endsOf : List (Nat × En) := [(0, .aload_n 0, 1, 0, 0, 0, 0), (1, .iload_n 1, 2, 1, 0, 0, 0), (2, .iload_n 2, 3, 2, 0, 0, 0), (3, .iconst (-1), 4, 0, 0, -1, 0), (4, .invokevirtual 218, 7, 3, 0, 0, 0), (7, .pop, 8, 0, 0, 0, 0), (8, .iconst 0, 9, 0, 0, 0, 0), (9, .istore_n 3, 10, 3, 0, 0, 0), (10, .iconst 0, 11, 0, 0, 0, 0), (11, .istore 4, 13, 4, 0, 0, 0), (13, .iload 4, 15, 4, 0, 0, 0), (15, .bipush 10, 17, 0, 0, 10, 0), (17, .if_icmp .ge 37, 20, 54, 0, 0, 0), (20, .iload_n 3, 21, 3, 0, 0, 0), (21, .aload_n 0, 22, 0, 0, 0, 0), (22, .getfield 62, 25, 11, 25, 0, 0), (25, .iload 4, 27, 4, 0, 0, 0), (27, .iaload, 28, 0, 0, 0, 0), (28, .aload_n 0, 29, 0, 0, 0, 0), (29, .getfield 28, 32, 11, 8, 0, 0), (32, .iload_n 1, 33, 1, 0, 0, 0), (33, .iaload, 34, 0, 0, 0, 0), (34, .iand, 35, 0, 0, 0, 0), (35, .ifCond .eq 10, 38, 45, 0, 0, 0), (38, .iconst 1, 39, 0, 0, 1, 0), (39, .iload 4, 41, 4, 0, 0, 0), (41, .ishl, 42, 0, 0, 0, 0), (42, .goto 4, 46, 0, 0, 0, 0), (45, .iconst 0, 46, 0, 0, 0, 0), (46, .ior, 47, 0, 0, 0, 0), (47, .istore_n 3, 48, 3, 0, 0, 0), (48, .iinc 4 1, 51, 4, 0, 1, 0), (51, .goto (-38), 13, 0, 0, 0, 0), (54, .iload_n 3, 55, 3, 0, 0, 0), (55, .ireturn, 56, 0, 0, 0, 0)]
abbrev mX11_endsOf : MD := (yX11_endsOf, cX11_endsOf, 5, (some .int), { frames := 3, cells := 0, slots := 0, locals := 73 }, tbX11_endsOf)
def tbX11_stays : List (Nat × En) := [(0, .iconst 0, 1, 0, 0, 0, 0), (1, .istore_n 2, 2, 2, 0, 0, 0), (2, .iconst 0, 3, 0, 0, 0, 0), (3, .istore_n 3, 4, 3, 0, 0, 0), (4, .iload_n 3, 5, 3, 0, 0, 0), (5, .bipush 10, 7, 0, 0, 10, 0), (7, .if_icmp .ge 70, 10, 77, 0, 0, 0), (10, .aload_n 0, 11, 0, 0, 0, 0), (11, .getfield 31, 14, 11, 9, 0, 0), (14, .ifCond .lt 63, 17, 77, 0, 0, 0), (17, .aload_n 0, 18, 0, 0, 0, 0), (18, .aload_n 0, 19, 0, 0, 0, 0), (19, .getfield 31, 22, 11, 9, 0, 0), (22, .iload_n 3, 23, 3, 0, 0, 0), (23, .invokevirtual 101, 26, 2, 0, 0, 0), (26, .istore 4, 28, 4, 0, 0, 0), (28, .iload_n 2, 29, 2, 0, 0, 0), (29, .iload_n 1, 30, 1, 0, 0, 0), (30, .ifCond .eq 17, 33, 47, 0, 0, 0), (33, .aload_n 0, 34, 0, 0, 0, 0), (34, .getfield 35, 37, 11, 10, 0, 0), (37, .iload_n 3, 38, 3, 0, 0, 0), (38, .iaload, 39, 0, 0, 0, 0), (39, .iload 4, 41, 4, 0, 0, 0), (41, .iconst (-1), 42, 0, 0, -1, 0), (42, .ixor, 43, 0, 0, 0, 0), (43, .iand, 44, 0, 0, 0, 0), (44, .goto 14, 58, 0, 0, 0, 0), (47, .iload 4, 49, 4, 0, 0, 0), (49, .aload_n 0, 50, 0, 0, 0, 0), (50, .getfield 35, 53, 11, 10, 0, 0), (53, .iload_n 3, 54, 3, 0, 0, 0), (54, .iaload, 55, 0, 0, 0, 0), (55, .iconst (-1), 56, 0, 0, -1, 0), (56, .ixor, 57, 0, 0, 0, 0), (57, .iand, 58, 0, 0, 0, 0), (58, .invokestatic 105, 61, 1, 0, 0, 0), (61, .iadd, 62, 0, 0, 0, 0), (62, .istore_n 2, 63, 2, 0, 0, 0), (63, .aload_n 0, 64, 0, 0, 0, 0), (64, .getfield 35, 67, 11, 10, 0, 0), (67, .iload_n 3, 68, 3, 0, 0, 0), (68, .iload 4, 70, 4, 0, 0, 0), (70, .iastore, 71, 0, 0, 0, 0), (71, .iinc 3 1, 74, 3, 0, 1, 0), (74, .goto (-70), 4, 0, 0, 0, 0), (77, .iload_n 2, 78, 2, 0, 0, 0), (78, .ireturn, 79, 0, 0, 0, 0)]
abbrev mX11_stays : MD := (yX11_stays, cX11_stays, 5, (some .int), { frames := 4, cells := 0, slots := 0, locals := 97 }, tbX11_stays)
def tbX11_edge : List (Nat × En) := [(0, .iload_n 1, 1, 1, 0, 0, 0), (1, .invokestatic 108, 4, 1, 0, 0, 0), (4, .ifCond .eq 19, 7, 23, 0, 0, 0), (7, .iload_n 2, 8, 2, 0, 0, 0), (8, .iconst 0, 9, 0, 0, 0, 0), (9, .iconst 3, 10, 0, 0, 3, 0), (10, .invokestatic 84, 13, 3, 0, 0, 0), (13, .ifCond .eq 10, 16, 23, 0, 0, 0), (16, .iload_n 3, 17, 3, 0, 0, 0), (17, .invokestatic 108, 20, 1, 0, 0, 0), (20, .ifCond .ne 10, 23, 30, 0, 0, 0), (23, .aload_n 0, 24, 0, 0, 0, 0), (24, .bipush (-2), 26, 0, 0, -2, 0), (26, .invokevirtual 112, 29, 1, 0, 0, 0), (29, .ireturn, 30, 0, 0, 0, 0), (30, .aload_n 0, 31, 0, 0, 0, 0), (31, .iload_n 1, 32, 1, 0, 0, 0), (32, .iload_n 2, 33, 2, 0, 0, 0), (33, .iload_n 3, 34, 3, 0, 0, 0), (34, .invokevirtual 115, 37, 3, 0, 0, 0), (37, .ifCond .eq 10, 40, 47, 0, 0, 0), (40, .aload_n 0, 41, 0, 0, 0, 0), (41, .bipush (-3), 43, 0, 0, -3, 0), (43, .invokevirtual 112, 46, 1, 0, 0, 0), (46, .ireturn, 47, 0, 0, 0, 0), (47, .aload_n 0, 48, 0, 0, 0, 0), (48, .getfield 88, 51, 11, 1, 0, 0), (51, .bipush 30, 53, 0, 0, 30, 0), (53, .if_icmp .ne 10, 56, 63, 0, 0, 0), (56, .aload_n 0, 57, 0, 0, 0, 0), (57, .bipush (-4), 59, 0, 0, -4, 0), (59, .invokevirtual 112, 62, 1, 0, 0, 0), (62, .ireturn, 63, 0, 0, 0, 0), (63, .aload_n 0, 64, 0, 0, 0, 0), (64, .iload_n 1, 65, 1, 0, 0, 0), (65, .iload_n 2, 66, 2, 0, 0, 0), (66, .iload_n 3, 67, 3, 0, 0, 0), (67, .invokevirtual 118, 70, 3, 0, 0, 0), (70, .aload_n 0, 71, 0, 0, 0, 0), (71, .iconst 0, 72, 0, 0, 0, 0), (72, .invokevirtual 122, 75, 1, 0, 0, 0), (75, .istore 4, 77, 4, 0, 0, 0), (77, .aload_n 0, 78, 0, 0, 0, 0), (78, .dup, 79, 0, 0, 0, 0), (79, .getfield 126, 82, 11, 11, 0, 0), (82, .iload 4, 84, 4, 0, 0, 0), (84, .iadd, 85, 0, 0, 0, 0), (85, .putfield 126, 88, 11, 11, 0, 0), (88, .iload 4, 90, 4, 0, 0, 0), (90, .ireturn, 91, 0, 0, 0, 0)]
abbrev mX11_edge : MD := (yX11_edge, cX11_edge, 5, (some .int), { frames := 5, cells := 0, slots := 0, locals := 121 }, tbX11_edge)
def tbX11_drop : List (Nat × En) := [(0, .iload_n 1, 1, 1, 0, 0, 0), (1, .iconst 0, 2, 0, 0, 0, 0), (2, .aload_n 0, 3, 0, 0, 0, 0), (3, .getfield 88, 6, 11, 1, 0, 0), (6, .iconst 1, 7, 0, 0, 1, 0), (7, .isub, 8, 0, 0, 0, 0), (8, .invokestatic 84, 11, 3, 0, 0, 0), (11, .ifCond .ne 10, 14, 21, 0, 0, 0), (14, .aload_n 0, 15, 0, 0, 0, 0), (15, .bipush (-2), 17, 0, 0, -2, 0), (17, .invokevirtual 112, 20, 1, 0, 0, 0), (20, .ireturn, 21, 0, 0, 0, 0), (21, .aload_n 0, 22, 0, 0, 0, 0), (22, .dup, 23, 0, 0, 0, 0), (23, .getfield 88, 26, 11, 1, 0, 0), (26, .iconst 1, 27, 0, 0, 1, 0), (27, .isub, 28, 0, 0, 0, 0), (28, .putfield 88, 31, 11, 1, 0, 0), (31, .iconst 3, 32, 0, 0, 3, 0), (32, .iload_n 1, 33, 1, 0, 0, 0), (33, .imul, 34, 0, 0, 0, 0), (34, .istore_n 2, 35, 2, 0, 0, 0), (35, .iload_n 2, 36, 2, 0, 0, 0), (36, .iconst 3, 37, 0, 0, 3, 0), (37, .aload_n 0, 38, 0, 0, 0, 0), (38, .getfield 88, 41, 11, 1, 0, 0), (41, .imul, 42, 0, 0, 0, 0), (42, .if_icmp .ge 23, 45, 65, 0, 0, 0), (45, .aload_n 0, 46, 0, 0, 0, 0), (46, .getfield 7, 49, 11, 0, 0, 0), (49, .iload_n 2, 50, 2, 0, 0, 0), (50, .aload_n 0, 51, 0, 0, 0, 0), (51, .getfield 7, 54, 11, 0, 0, 0), (54, .iload_n 2, 55, 2, 0, 0, 0), (55, .iconst 3, 56, 0, 0, 3, 0), (56, .iadd, 57, 0, 0, 0, 0), (57, .iaload, 58, 0, 0, 0, 0), (58, .iastore, 59, 0, 0, 0, 0), (59, .iinc 2 1, 62, 2, 0, 1, 0), (62, .goto (-27), 35, 0, 0, 0, 0), (65, .aload_n 0, 66, 0, 0, 0, 0), (66, .iconst 1, 67, 0, 0, 1, 0), (67, .invokevirtual 122, 70, 1, 0, 0, 0), (70, .istore_n 2, 71, 2, 0, 0, 0), (71, .aload_n 0, 72, 0, 0, 0, 0), (72, .dup, 73, 0, 0, 0, 0), (73, .getfield 129, 76, 11, 12, 0, 0), (76, .iload_n 2, 77, 2, 0, 0, 0), (77, .iadd, 78, 0, 0, 0, 0), (78, .putfield 129, 81, 11, 12, 0, 0), (81, .iload_n 2, 82, 2, 0, 0, 0), (82, .ireturn, 83, 0, 0, 0, 0)]
abbrev mX11_drop : MD := (yX11_drop, cX11_drop, 3, (some .int), { frames := 5, cells := 0, slots := 0, locals := 121 }, tbX11_drop)
def tbX11_anew : List (Nat × En) := [(0, .aload_n 0, 1, 0, 0, 0, 0), (1, .getfield 88, 4, 11, 1, 0, 0), (4, .istore_n 1, 5, 1, 0, 0, 0), (5, .aload_n 0, 6, 0, 0, 0, 0), (6, .iconst 0, 7, 0, 0, 0, 0), (7, .putfield 88, 10, 11, 1, 0, 0), (10, .aload_n 0, 11, 0, 0, 0, 0), (11, .iconst 1, 12, 0, 0, 1, 0), (12, .invokevirtual 122, 15, 1, 0, 0, 0), (15, .pop, 16, 0, 0, 0, 0), (16, .iload_n 1, 17, 1, 0, 0, 0), (17, .ireturn, 18, 0, 0, 0, 0)]
abbrev mX11_anew : MD := (yX11_anew, cX11_anew, 2, (some .int), { frames := 5, cells := 0, slots := 0, locals := 121 }, tbX11_anew)
def tbX11_of : List (Nat × En) := [(0, .iload_n 1, 1, 1, 0, 0, 0), (1, .iconst 0, 2, 0, 0, 0, 0), (2, .aload_n 0, 3, 0, 0, 0, 0), (3, .getfield 88, 6, 11, 1, 0, 0), (6, .iconst 1, 7, 0, 0, 1, 0), (7, .isub, 8, 0, 0, 0, 0), (8, .invokestatic 84, 11, 3, 0, 0, 0), (11, .ifCond .eq 25, 14, 36, 0, 0, 0), (14, .iload_n 2, 15, 2, 0, 0, 0), (15, .iconst 0, 16, 0, 0, 0, 0), (16, .iconst 2, 17, 0, 0, 2, 0), (17, .invokestatic 84, 20, 3, 0, 0, 0), (20, .ifCond .eq 16, 23, 36, 0, 0, 0), (23, .aload_n 0, 24, 0, 0, 0, 0), (24, .getfield 7, 27, 11, 0, 0, 0), (27, .iconst 3, 28, 0, 0, 3, 0), (28, .iload_n 1, 29, 1, 0, 0, 0), (29, .imul, 30, 0, 0, 0, 0), (30, .iload_n 2, 31, 2, 0, 0, 0), (31, .iadd, 32, 0, 0, 0, 0), (32, .iaload, 33, 0, 0, 0, 0), (33, .goto 9, 42, 0, 0, 0, 0), (36, .aload_n 0, 37, 0, 0, 0, 0), (37, .bipush (-2), 39, 0, 0, -2, 0), (39, .invokevirtual 112, 42, 1, 0, 0, 0), (42, .ireturn, 43, 0, 0, 0, 0)]
abbrev mX11_of : MD := (yX11_of, cX11_of, 3, (some .int), { frames := 1, cells := 0, slots := 0, locals := 22 }, tbX11_of)
def tbX11_degree : List (Nat × En) := [(0, .iload_n 1, 1, 1, 0, 0, 0), (1, .invokestatic 108, 4, 1, 0, 0, 0), (4, .ifCond .eq 12, 7, 16, 0, 0, 0), (7, .iload_n 2, 8, 2, 0, 0, 0), (8, .iconst 0, 9, 0, 0, 0, 0), (9, .iconst 1, 10, 0, 0, 1, 0), (10, .invokestatic 84, 13, 3, 0, 0, 0), (13, .ifCond .ne 10, 16, 23, 0, 0, 0), (16, .aload_n 0, 17, 0, 0, 0, 0), (17, .bipush (-2), 19, 0, 0, -2, 0), (19, .invokevirtual 112, 22, 1, 0, 0, 0), (22, .ireturn, 23, 0, 0, 0, 0), (23, .iconst 0, 24, 0, 0, 0, 0), (24, .istore_n 3, 25, 3, 0, 0, 0), (25, .iconst 0, 26, 0, 0, 0, 0), (26, .istore 4, 28, 4, 0, 0, 0), (28, .iload 4, 30, 4, 0, 0, 0), (30, .aload_n 0, 31, 0, 0, 0, 0), (31, .getfield 88, 34, 11, 1, 0, 0), (34, .if_icmp .ge 40, 37, 74, 0, 0, 0), (37, .iload_n 3, 38, 3, 0, 0, 0), (38, .iload_n 2, 39, 2, 0, 0, 0), (39, .ifCond .ne 12, 42, 51, 0, 0, 0), (42, .aload_n 0, 43, 0, 0, 0, 0), (43, .iload 4, 45, 4, 0, 0, 0), (45, .invokevirtual 91, 48, 1, 0, 0, 0), (48, .goto 9, 57, 0, 0, 0, 0), (51, .aload_n 0, 52, 0, 0, 0, 0), (52, .iload 4, 54, 4, 0, 0, 0), (54, .invokevirtual 98, 57, 1, 0, 0, 0), (57, .iload_n 1, 58, 1, 0, 0, 0), (58, .if_icmp .ne 7, 61, 65, 0, 0, 0), (61, .iconst 1, 62, 0, 0, 1, 0), (62, .goto 4, 66, 0, 0, 0, 0), (65, .iconst 0, 66, 0, 0, 0, 0), (66, .iadd, 67, 0, 0, 0, 0), (67, .istore_n 3, 68, 3, 0, 0, 0), (68, .iinc 4 1, 71, 4, 0, 1, 0), (71, .goto (-43), 28, 0, 0, 0, 0), (74, .iload_n 3, 75, 3, 0, 0, 0), (75, .ireturn, 76, 0, 0, 0, 0)]
abbrev mX11_degree : MD := (yX11_degree, cX11_degree, 5, (some .int), { frames := 2, cells := 0, slots := 0, locals := 42 }, tbX11_degree)
def tbX11_type : List (Nat × En) := [(0, .iload_n 1, 1, 1, 0, 0, 0), (1, .iconst 0, 2, 0, 0, 0, 0), (2, .bipush 127, 4, 0, 0, 127, 0), (4, .invokestatic 84, 7, 3, 0, 0, 0), (7, .ifCond .ne 10, 10, 17, 0, 0, 0), (10, .aload_n 0, 11, 0, 0, 0, 0), (11, .bipush (-2), 13, 0, 0, -2, 0), (13, .invokevirtual 112, 16, 1, 0, 0, 0), (16, .ireturn, 17, 0, 0, 0, 0), (17, .aload_n 0, 18, 0, 0, 0, 0), (18, .getfield 132, 21, 11, 4, 0, 0), (21, .bipush 80, 23, 0, 0, 80, 0), (23, .if_icmp .ne 10, 26, 33, 0, 0, 0), (26, .aload_n 0, 27, 0, 0, 0, 0), (27, .bipush (-4), 29, 0, 0, -4, 0), (29, .invokevirtual 112, 32, 1, 0, 0, 0), (32, .ireturn, 33, 0, 0, 0, 0), (33, .aload_n 0, 34, 0, 0, 0, 0), (34, .getfield 16, 37, 11, 3, 0, 0), (37, .aload_n 0, 38, 0, 0, 0, 0), (38, .getfield 132, 41, 11, 4, 0, 0), (41, .iload_n 1, 42, 1, 0, 0, 0), (42, .iastore, 43, 0, 0, 0, 0), (43, .aload_n 0, 44, 0, 0, 0, 0), (44, .dup, 45, 0, 0, 0, 0), (45, .getfield 132, 48, 11, 4, 0, 0), (48, .iconst 1, 49, 0, 0, 1, 0), (49, .iadd, 50, 0, 0, 0, 0), (50, .putfield 132, 53, 11, 4, 0, 0), (53, .aload_n 0, 54, 0, 0, 0, 0), (54, .getfield 132, 57, 11, 4, 0, 0), (57, .ireturn, 58, 0, 0, 0, 0)]
abbrev mX11_type : MD := (yX11_type, cX11_type, 2, (some .int), { frames := 1, cells := 0, slots := 0, locals := 22 }, tbX11_type)
def tbX11_clear : List (Nat × En) := [(0, .aload_n 0, 1, 0, 0, 0, 0), (1, .getfield 132, 4, 11, 4, 0, 0), (4, .istore_n 1, 5, 1, 0, 0, 0), (5, .aload_n 0, 6, 0, 0, 0, 0), (6, .iconst 0, 7, 0, 0, 0, 0), (7, .putfield 132, 10, 11, 4, 0, 0), (10, .iload_n 1, 11, 1, 0, 0, 0), (11, .ireturn, 12, 0, 0, 0, 0)]
abbrev mX11_clear : MD := (yX11_clear, cX11_clear, 2, (some .int), { frames := 0, cells := 0, slots := 0, locals := 0 }, tbX11_clear)
def tbX11_byteAt : List (Nat × En) := [(0, .iload_n 1, 1, 1, 0, 0, 0), (1, .aload_n 0, 2, 0, 0, 0, 0), (2, .getfield 132, 5, 11, 4, 0, 0), (5, .if_icmp .ge 12, 8, 17, 0, 0, 0), (8, .aload_n 0, 9, 0, 0, 0, 0), (9, .getfield 16, 12, 11, 3, 0, 0), (12, .iload_n 1, 13, 1, 0, 0, 0), (13, .iaload, 14, 0, 0, 0, 0), (14, .goto 4, 18, 0, 0, 0, 0), (17, .iconst (-1), 18, 0, 0, -1, 0), (18, .ireturn, 19, 0, 0, 0, 0)]
abbrev mX11_byteAt : MD := (yX11_byteAt, cX11_byteAt, 2, (some .int), { frames := 0, cells := 0, slots := 0, locals := 0 }, tbX11_byteAt)
def tbX11_skips : List (Nat × En) := [(0, .aload_n 0, 1, 0, 0, 0, 0), (1, .aload_n 0, 2, 0, 0, 0, 0), (2, .getfield 135, 5, 11, 16, 0, 0), (5, .invokevirtual 138, 8, 1, 0, 0, 0), (8, .bipush 32, 10, 0, 0, 32, 0), (10, .if_icmp .ne 16, 13, 26, 0, 0, 0), (13, .aload_n 0, 14, 0, 0, 0, 0), (14, .dup, 15, 0, 0, 0, 0), (15, .getfield 135, 18, 11, 16, 0, 0), (18, .iconst 1, 19, 0, 0, 1, 0), (19, .iadd, 20, 0, 0, 0, 0), (20, .putfield 135, 23, 11, 16, 0, 0), (23, .goto (-23), 0, 0, 0, 0, 0), (26, .return_, 27, 0, 0, 0, 0)]
abbrev mX11_skips : MD := (yX11_skips, cX11_skips, 1, none, { frames := 1, cells := 0, slots := 0, locals := 21 }, tbX11_skips)
def tbX11_signsBy : List (Nat × En) := [(0, .iload_n 0, 1, 0, 0, 0, 0), (1, .bipush 97, 3, 0, 0, 97, 0), (3, .bipush 100, 5, 0, 0, 100, 0), (5, .invokestatic 84, 8, 3, 0, 0, 0), (8, .ifCond .eq 12, 11, 20, 0, 0, 0), (11, .iconst 1, 12, 0, 0, 1, 0), (12, .iload_n 0, 13, 0, 0, 0, 0), (13, .bipush 97, 15, 0, 0, 97, 0), (15, .isub, 16, 0, 0, 0, 0), (16, .ishl, 17, 0, 0, 0, 0), (17, .goto 48, 65, 0, 0, 0, 0), (20, .iload_n 0, 21, 0, 0, 0, 0), (21, .bipush 65, 23, 0, 0, 65, 0), (23, .bipush 68, 25, 0, 0, 68, 0), (25, .invokestatic 84, 28, 3, 0, 0, 0), (28, .ifCond .eq 13, 31, 41, 0, 0, 0), (31, .bipush 16, 33, 0, 0, 16, 0), (33, .iload_n 0, 34, 0, 0, 0, 0), (34, .bipush 65, 36, 0, 0, 65, 0), (36, .isub, 37, 0, 0, 0, 0), (37, .ishl, 38, 0, 0, 0, 0), (38, .goto 27, 65, 0, 0, 0, 0), (41, .iload_n 0, 42, 0, 0, 0, 0), (42, .bipush 46, 44, 0, 0, 46, 0), (44, .if_icmp .ne 8, 47, 52, 0, 0, 0), (47, .bipush 15, 49, 0, 0, 15, 0), (49, .goto 16, 65, 0, 0, 0, 0), (52, .iload_n 0, 53, 0, 0, 0, 0), (53, .bipush 45, 55, 0, 0, 45, 0), (55, .if_icmp .ne 9, 58, 64, 0, 0, 0), (58, .sipush 240, 61, 0, 0, 240, 0), (61, .goto 4, 65, 0, 0, 0, 0), (64, .iconst 0, 65, 0, 0, 0, 0), (65, .ireturn, 66, 0, 0, 0, 0)]
abbrev mX11_signsBy : MD := (yX11_signsBy, cX11_signsBy, 1, (some .int), { frames := 1, cells := 0, slots := 0, locals := 22 }, tbX11_signsBy)
def tbX11_part : List (Nat × En) := [(0, .aload_n 0, 1, 0, 0, 0, 0), (1, .getfield 47, 4, 11, 19, 0, 0), (4, .aload_n 0, 5, 0, 0, 0, 0), (5, .getfield 141, 8, 11, 22, 0, 0), (8, .iload_n 1, 9, 1, 0, 0, 0), (9, .iastore, 10, 0, 0, 0, 0), (10, .aload_n 0, 11, 0, 0, 0, 0), (11, .getfield 50, 14, 11, 20, 0, 0), (14, .aload_n 0, 15, 0, 0, 0, 0), (15, .getfield 141, 18, 11, 22, 0, 0), (18, .iload_n 2, 19, 2, 0, 0, 0), (19, .iastore, 20, 0, 0, 0, 0), (20, .aload_n 0, 21, 0, 0, 0, 0), (21, .getfield 53, 24, 11, 21, 0, 0), (24, .aload_n 0, 25, 0, 0, 0, 0), (25, .getfield 141, 28, 11, 22, 0, 0), (28, .iload_n 3, 29, 3, 0, 0, 0), (29, .iastore, 30, 0, 0, 0, 0), (30, .aload_n 0, 31, 0, 0, 0, 0), (31, .dup, 32, 0, 0, 0, 0), (32, .getfield 141, 35, 11, 22, 0, 0), (35, .iconst 1, 36, 0, 0, 1, 0), (36, .iadd, 37, 0, 0, 0, 0), (37, .putfield 141, 40, 11, 22, 0, 0), (40, .return_, 41, 0, 0, 0, 0)]
abbrev mX11_part : MD := (yX11_part, cX11_part, 4, none, { frames := 0, cells := 0, slots := 0, locals := 0 }, tbX11_part)
def tbX11_follows : List (Nat × En) := [(0, .iconst 0, 1, 0, 0, 0, 0), (1, .istore_n 3, 2, 3, 0, 0, 0), (2, .iload_n 3, 3, 3, 0, 0, 0), (3, .bipush 24, 5, 0, 0, 24, 0), (5, .if_icmp .ge 32, 8, 37, 0, 0, 0), (8, .aload_n 0, 9, 0, 0, 0, 0), (9, .getfield 38, 12, 11, 13, 0, 0), (12, .iload_n 3, 13, 3, 0, 0, 0), (13, .dup2, 14, 0, 0, 0, 0), (14, .iaload, 15, 0, 0, 0, 0), (15, .iload_n 1, 16, 1, 0, 0, 0), (16, .iload_n 3, 17, 3, 0, 0, 0), (17, .ishr, 18, 0, 0, 0, 0), (18, .iconst 1, 19, 0, 0, 1, 0), (19, .iand, 20, 0, 0, 0, 0), (20, .iconst 1, 21, 0, 0, 1, 0), (21, .if_icmp .ne 7, 24, 28, 0, 0, 0), (24, .iload_n 2, 25, 2, 0, 0, 0), (25, .goto 4, 29, 0, 0, 0, 0), (28, .iconst 0, 29, 0, 0, 0, 0), (29, .ior, 30, 0, 0, 0, 0), (30, .iastore, 31, 0, 0, 0, 0), (31, .iinc 3 1, 34, 3, 0, 1, 0), (34, .goto (-32), 2, 0, 0, 0, 0), (37, .return_, 38, 0, 0, 0, 0)]
abbrev mX11_follows : MD := (yX11_follows, cX11_follows, 4, none, { frames := 0, cells := 0, slots := 0, locals := 0 }, tbX11_follows)
def tbX11_joins : List (Nat × En) := [(0, .aload_n 0, 1, 0, 0, 0, 0), (1, .dup, 2, 0, 0, 0, 0), (2, .getfield 141, 5, 11, 22, 0, 0), (5, .iconst 1, 6, 0, 0, 1, 0), (6, .isub, 7, 0, 0, 0, 0), (7, .putfield 141, 10, 11, 22, 0, 0), (10, .aload_n 0, 11, 0, 0, 0, 0), (11, .getfield 141, 14, 11, 22, 0, 0), (14, .iconst 1, 15, 0, 0, 1, 0), (15, .isub, 16, 0, 0, 0, 0), (16, .istore_n 2, 17, 2, 0, 0, 0), (17, .aload_n 0, 18, 0, 0, 0, 0), (18, .getfield 141, 21, 11, 22, 0, 0), (21, .istore_n 3, 22, 3, 0, 0, 0), (22, .iload_n 1, 23, 1, 0, 0, 0), (23, .bipush 46, 25, 0, 0, 46, 0), (25, .if_icmp .ne 99, 28, 124, 0, 0, 0), (28, .aload_n 0, 29, 0, 0, 0, 0), (29, .aload_n 0, 30, 0, 0, 0, 0), (30, .getfield 53, 33, 11, 21, 0, 0), (33, .iload_n 2, 34, 2, 0, 0, 0), (34, .iaload, 35, 0, 0, 0, 0), (35, .aload_n 0, 36, 0, 0, 0, 0), (36, .getfield 50, 39, 11, 20, 0, 0), (39, .iload_n 3, 40, 3, 0, 0, 0), (40, .iaload, 41, 0, 0, 0, 0), (41, .invokevirtual 144, 44, 2, 0, 0, 0), (44, .aload_n 0, 45, 0, 0, 0, 0), (45, .getfield 50, 48, 11, 20, 0, 0), (48, .iload_n 2, 49, 2, 0, 0, 0), (49, .dup2, 50, 0, 0, 0, 0), (50, .iaload, 51, 0, 0, 0, 0), (51, .aload_n 0, 52, 0, 0, 0, 0), (52, .getfield 47, 55, 11, 19, 0, 0), (55, .iload_n 2, 56, 2, 0, 0, 0), (56, .iaload, 57, 0, 0, 0, 0), (57, .iconst 1, 58, 0, 0, 1, 0), (58, .if_icmp .ne 12, 61, 70, 0, 0, 0), (61, .aload_n 0, 62, 0, 0, 0, 0), (62, .getfield 50, 65, 11, 20, 0, 0), (65, .iload_n 3, 66, 3, 0, 0, 0), (66, .iaload, 67, 0, 0, 0, 0), (67, .goto 4, 71, 0, 0, 0, 0), (70, .iconst 0, 71, 0, 0, 0, 0), (71, .ior, 72, 0, 0, 0, 0), (72, .iastore, 73, 0, 0, 0, 0), (73, .aload_n 0, 74, 0, 0, 0, 0), (74, .getfield 53, 77, 11, 21, 0, 0), (77, .iload_n 2, 78, 2, 0, 0, 0), (78, .aload_n 0, 79, 0, 0, 0, 0), (79, .getfield 53, 82, 11, 21, 0, 0), (82, .iload_n 3, 83, 3, 0, 0, 0), (83, .iaload, 84, 0, 0, 0, 0), (84, .aload_n 0, 85, 0, 0, 0, 0), (85, .getfield 47, 88, 11, 19, 0, 0), (88, .iload_n 3, 89, 3, 0, 0, 0), (89, .iaload, 90, 0, 0, 0, 0), (90, .iconst 1, 91, 0, 0, 1, 0), (91, .if_icmp .ne 12, 94, 103, 0, 0, 0), (94, .aload_n 0, 95, 0, 0, 0, 0), (95, .getfield 53, 98, 11, 21, 0, 0), (98, .iload_n 2, 99, 2, 0, 0, 0), (99, .iaload, 100, 0, 0, 0, 0), (100, .goto 4, 104, 0, 0, 0, 0), (103, .iconst 0, 104, 0, 0, 0, 0), (104, .ior, 105, 0, 0, 0, 0), (105, .iastore, 106, 0, 0, 0, 0), (106, .aload_n 0, 107, 0, 0, 0, 0), (107, .getfield 47, 110, 11, 19, 0, 0), (110, .iload_n 2, 111, 2, 0, 0, 0), (111, .dup2, 112, 0, 0, 0, 0), (112, .iaload, 113, 0, 0, 0, 0), (113, .aload_n 0, 114, 0, 0, 0, 0), (114, .getfield 47, 117, 11, 19, 0, 0), (117, .iload_n 3, 118, 3, 0, 0, 0), (118, .iaload, 119, 0, 0, 0, 0), (119, .iand, 120, 0, 0, 0, 0), (120, .iastore, 121, 0, 0, 0, 0), (121, .goto 48, 169, 0, 0, 0, 0), (124, .aload_n 0, 125, 0, 0, 0, 0), (125, .getfield 50, 128, 11, 20, 0, 0), (128, .iload_n 2, 129, 2, 0, 0, 0), (129, .dup2, 130, 0, 0, 0, 0), (130, .iaload, 131, 0, 0, 0, 0), (131, .aload_n 0, 132, 0, 0, 0, 0), (132, .getfield 50, 135, 11, 20, 0, 0), (135, .iload_n 3, 136, 3, 0, 0, 0), (136, .iaload, 137, 0, 0, 0, 0), (137, .ior, 138, 0, 0, 0, 0), (138, .iastore, 139, 0, 0, 0, 0), (139, .aload_n 0, 140, 0, 0, 0, 0), (140, .getfield 53, 143, 11, 21, 0, 0), (143, .iload_n 2, 144, 2, 0, 0, 0), (144, .dup2, 145, 0, 0, 0, 0), (145, .iaload, 146, 0, 0, 0, 0), (146, .aload_n 0, 147, 0, 0, 0, 0), (147, .getfield 53, 150, 11, 21, 0, 0), (150, .iload_n 3, 151, 3, 0, 0, 0), (151, .iaload, 152, 0, 0, 0, 0), (152, .ior, 153, 0, 0, 0, 0), (153, .iastore, 154, 0, 0, 0, 0), (154, .aload_n 0, 155, 0, 0, 0, 0), (155, .getfield 47, 158, 11, 19, 0, 0), (158, .iload_n 2, 159, 2, 0, 0, 0), (159, .dup2, 160, 0, 0, 0, 0), (160, .iaload, 161, 0, 0, 0, 0), (161, .aload_n 0, 162, 0, 0, 0, 0), (162, .getfield 47, 165, 11, 19, 0, 0), (165, .iload_n 3, 166, 3, 0, 0, 0), (166, .iaload, 167, 0, 0, 0, 0), (167, .ior, 168, 0, 0, 0, 0), (168, .iastore, 169, 0, 0, 0, 0), (169, .return_, 170, 0, 0, 0, 0)]
abbrev mX11_joins : MD := (yX11_joins, cX11_joins, 4, none, { frames := 1, cells := 0, slots := 0, locals := 23 }, tbX11_joins)
def tbX11_does : List (Nat × En) := [(0, .aload_n 0, 1, 0, 0, 0, 0), (1, .getfield 148, 4, 11, 18, 0, 0), (4, .ifCond .le 65, 7, 69, 0, 0, 0), (7, .aload_n 0, 8, 0, 0, 0, 0), (8, .getfield 44, 11, 11, 17, 0, 0), (11, .aload_n 0, 12, 0, 0, 0, 0), (12, .getfield 148, 15, 11, 18, 0, 0), (15, .iconst 1, 16, 0, 0, 1, 0), (16, .isub, 17, 0, 0, 0, 0), (17, .iaload, 18, 0, 0, 0, 0), (18, .bipush 46, 20, 0, 0, 46, 0), (20, .if_icmp .eq 23, 23, 43, 0, 0, 0), (23, .iload_n 1, 24, 1, 0, 0, 0), (24, .ifCond .eq 45, 27, 69, 0, 0, 0), (27, .aload_n 0, 28, 0, 0, 0, 0), (28, .getfield 44, 31, 11, 17, 0, 0), (31, .aload_n 0, 32, 0, 0, 0, 0), (32, .getfield 148, 35, 11, 18, 0, 0), (35, .iconst 1, 36, 0, 0, 1, 0), (36, .isub, 37, 0, 0, 0, 0), (37, .iaload, 38, 0, 0, 0, 0), (38, .bipush 124, 40, 0, 0, 124, 0), (40, .if_icmp .ne 29, 43, 69, 0, 0, 0), (43, .aload_n 0, 44, 0, 0, 0, 0), (44, .dup, 45, 0, 0, 0, 0), (45, .getfield 148, 48, 11, 18, 0, 0), (48, .iconst 1, 49, 0, 0, 1, 0), (49, .isub, 50, 0, 0, 0, 0), (50, .putfield 148, 53, 11, 18, 0, 0), (53, .aload_n 0, 54, 0, 0, 0, 0), (54, .aload_n 0, 55, 0, 0, 0, 0), (55, .getfield 44, 58, 11, 17, 0, 0), (58, .aload_n 0, 59, 0, 0, 0, 0), (59, .getfield 148, 62, 11, 18, 0, 0), (62, .iaload, 63, 0, 0, 0, 0), (63, .invokevirtual 151, 66, 1, 0, 0, 0), (66, .goto (-66), 0, 0, 0, 0, 0), (69, .return_, 70, 0, 0, 0, 0)]
abbrev mX11_does : MD := (yX11_does, cX11_does, 2, none, { frames := 2, cells := 0, slots := 0, locals := 46 }, tbX11_does)
def tbX11_depth : List (Nat × En) := [(0, .iconst 0, 1, 0, 0, 0, 0), (1, .istore_n 1, 2, 1, 0, 0, 0), (2, .iconst 0, 3, 0, 0, 0, 0), (3, .istore_n 2, 4, 2, 0, 0, 0), (4, .iload_n 2, 5, 2, 0, 0, 0), (5, .aload_n 0, 6, 0, 0, 0, 0), (6, .getfield 148, 9, 11, 18, 0, 0), (9, .if_icmp .ge 28, 12, 37, 0, 0, 0), (12, .iload_n 1, 13, 1, 0, 0, 0), (13, .aload_n 0, 14, 0, 0, 0, 0), (14, .getfield 44, 17, 11, 17, 0, 0), (17, .iload_n 2, 18, 2, 0, 0, 0), (18, .iaload, 19, 0, 0, 0, 0), (19, .bipush 40, 21, 0, 0, 40, 0), (21, .if_icmp .ne 7, 24, 28, 0, 0, 0), (24, .iconst 1, 25, 0, 0, 1, 0), (25, .goto 4, 29, 0, 0, 0, 0), (28, .iconst 0, 29, 0, 0, 0, 0), (29, .iadd, 30, 0, 0, 0, 0), (30, .istore_n 1, 31, 1, 0, 0, 0), (31, .iinc 2 1, 34, 2, 0, 1, 0), (34, .goto (-30), 4, 0, 0, 0, 0), (37, .iload_n 1, 38, 1, 0, 0, 0), (38, .ireturn, 39, 0, 0, 0, 0)]
abbrev mX11_depth : MD := (yX11_depth, cX11_depth, 3, (some .int), { frames := 0, cells := 0, slots := 0, locals := 0 }, tbX11_depth)
def tbX11_behind : List (Nat × En) := [(0, .iload_n 1, 1, 1, 0, 0, 0), (1, .ifCond .eq 29, 4, 30, 0, 0, 0), (4, .aload_n 0, 5, 0, 0, 0, 0), (5, .iconst 0, 6, 0, 0, 0, 0), (6, .invokevirtual 155, 9, 1, 0, 0, 0), (9, .aload_n 0, 10, 0, 0, 0, 0), (10, .getfield 44, 13, 11, 17, 0, 0), (13, .aload_n 0, 14, 0, 0, 0, 0), (14, .getfield 148, 17, 11, 18, 0, 0), (17, .bipush 46, 19, 0, 0, 46, 0), (19, .iastore, 20, 0, 0, 0, 0), (20, .aload_n 0, 21, 0, 0, 0, 0), (21, .dup, 22, 0, 0, 0, 0), (22, .getfield 148, 25, 11, 18, 0, 0), (25, .iconst 1, 26, 0, 0, 1, 0), (26, .iadd, 27, 0, 0, 0, 0), (27, .putfield 148, 30, 11, 18, 0, 0), (30, .return_, 31, 0, 0, 0, 0)]
abbrev mX11_behind : MD := (yX11_behind, cX11_behind, 2, none, { frames := 3, cells := 0, slots := 0, locals := 67 }, tbX11_behind)
def tbX11_readsAll : List (Nat × En) := [(0, .iconst 0, 1, 0, 0, 0, 0), (1, .istore_n 1, 2, 1, 0, 0, 0), (2, .iload_n 1, 3, 1, 0, 0, 0), (3, .bipush 25, 5, 0, 0, 25, 0), (5, .if_icmp .ge 16, 8, 21, 0, 0, 0), (8, .aload_n 0, 9, 0, 0, 0, 0), (9, .getfield 38, 12, 11, 13, 0, 0), (12, .iload_n 1, 13, 1, 0, 0, 0), (13, .iconst 0, 14, 0, 0, 0, 0), (14, .iastore, 15, 0, 0, 0, 0), (15, .iinc 1 1, 18, 1, 0, 1, 0), (18, .goto (-16), 2, 0, 0, 0, 0), (21, .iconst 0, 22, 0, 0, 0, 0), (22, .istore_n 1, 23, 1, 0, 0, 0), (23, .iload_n 1, 24, 1, 0, 0, 0), (24, .bipush 8, 26, 0, 0, 8, 0), (26, .if_icmp .ge 16, 29, 42, 0, 0, 0), (29, .aload_n 0, 30, 0, 0, 0, 0), (30, .getfield 41, 33, 11, 14, 0, 0), (33, .iload_n 1, 34, 1, 0, 0, 0), (34, .iconst 0, 35, 0, 0, 0, 0), (35, .iastore, 36, 0, 0, 0, 0), (36, .iinc 1 1, 39, 1, 0, 1, 0), (39, .goto (-16), 23, 0, 0, 0, 0), (42, .aload_n 0, 43, 0, 0, 0, 0), (43, .iconst 0, 44, 0, 0, 0, 0), (44, .putfield 159, 47, 11, 15, 0, 0), (47, .aload_n 0, 48, 0, 0, 0, 0), (48, .iconst 0, 49, 0, 0, 0, 0), (49, .putfield 148, 52, 11, 18, 0, 0), (52, .aload_n 0, 53, 0, 0, 0, 0), (53, .iconst 0, 54, 0, 0, 0, 0), (54, .putfield 141, 57, 11, 22, 0, 0), (57, .aload_n 0, 58, 0, 0, 0, 0), (58, .iconst 0, 59, 0, 0, 0, 0), (59, .putfield 135, 62, 11, 16, 0, 0), (62, .iconst 0, 63, 0, 0, 0, 0), (63, .istore_n 1, 64, 1, 0, 0, 0), (64, .aload_n 0, 65, 0, 0, 0, 0), (65, .invokevirtual 162, 68, 0, 0, 0, 0), (68, .aload_n 0, 69, 0, 0, 0, 0), (69, .aload_n 0, 70, 0, 0, 0, 0), (70, .getfield 135, 73, 11, 16, 0, 0), (73, .invokevirtual 138, 76, 1, 0, 0, 0), (76, .istore_n 2, 77, 2, 0, 0, 0), (77, .iload_n 2, 78, 2, 0, 0, 0), (78, .invokestatic 165, 81, 1, 0, 0, 0), (81, .ifCond .eq 90, 84, 171, 0, 0, 0), (84, .aload_n 0, 85, 0, 0, 0, 0), (85, .getfield 159, 88, 11, 15, 0, 0), (88, .bipush 24, 90, 0, 0, 24, 0), (90, .if_icmp .ne 8, 93, 98, 0, 0, 0), (93, .aload_n 0, 94, 0, 0, 0, 0), (94, .getfield 135, 97, 11, 16, 0, 0), (97, .ireturn, 98, 0, 0, 0, 0), (98, .aload_n 0, 99, 0, 0, 0, 0), (99, .iload_n 1, 100, 1, 0, 0, 0), (100, .invokevirtual 168, 103, 1, 0, 0, 0), (103, .iconst 0, 104, 0, 0, 0, 0), (104, .istore_n 3, 105, 3, 0, 0, 0), (105, .iload_n 3, 106, 3, 0, 0, 0), (106, .bipush 8, 108, 0, 0, 8, 0), (108, .if_icmp .ge 31, 111, 139, 0, 0, 0), (111, .aload_n 0, 112, 0, 0, 0, 0), (112, .getfield 41, 115, 11, 14, 0, 0), (115, .iload_n 3, 116, 3, 0, 0, 0), (116, .dup2, 117, 0, 0, 0, 0), (117, .iaload, 118, 0, 0, 0, 0), (118, .iload_n 2, 119, 2, 0, 0, 0), (119, .invokestatic 165, 122, 1, 0, 0, 0), (122, .iload_n 3, 123, 3, 0, 0, 0), (123, .ishr, 124, 0, 0, 0, 0), (124, .iconst 1, 125, 0, 0, 1, 0), (125, .iand, 126, 0, 0, 0, 0), (126, .aload_n 0, 127, 0, 0, 0, 0), (127, .getfield 159, 130, 11, 15, 0, 0), (130, .ishl, 131, 0, 0, 0, 0), (131, .ior, 132, 0, 0, 0, 0), (132, .iastore, 133, 0, 0, 0, 0), (133, .iinc 3 1, 136, 3, 0, 1, 0), (136, .goto (-31), 105, 0, 0, 0, 0), (139, .aload_n 0, 140, 0, 0, 0, 0), (140, .iconst 0, 141, 0, 0, 0, 0), (141, .iconst 1, 142, 0, 0, 1, 0), (142, .aload_n 0, 143, 0, 0, 0, 0), (143, .getfield 159, 146, 11, 15, 0, 0), (146, .ishl, 147, 0, 0, 0, 0), (147, .iconst 1, 148, 0, 0, 1, 0), (148, .aload_n 0, 149, 0, 0, 0, 0), (149, .getfield 159, 152, 11, 15, 0, 0), (152, .ishl, 153, 0, 0, 0, 0), (153, .invokevirtual 171, 156, 3, 0, 0, 0), (156, .aload_n 0, 157, 0, 0, 0, 0), (157, .dup, 158, 0, 0, 0, 0), (158, .getfield 159, 161, 11, 15, 0, 0), (161, .iconst 1, 162, 0, 0, 1, 0), (162, .iadd, 163, 0, 0, 0, 0), (163, .putfield 159, 166, 11, 15, 0, 0), (166, .iconst 1, 167, 0, 0, 1, 0), (167, .istore_n 1, 168, 1, 0, 0, 0), (168, .goto 287, 455, 0, 0, 0, 0), (171, .iload_n 2, 172, 2, 0, 0, 0), (172, .bipush 40, 174, 0, 0, 40, 0), (174, .if_icmp .ne 89, 177, 263, 0, 0, 0), (177, .aload_n 0, 178, 0, 0, 0, 0), (178, .iload_n 1, 179, 1, 0, 0, 0), (179, .invokevirtual 168, 182, 1, 0, 0, 0), (182, .aload_n 0, 183, 0, 0, 0, 0), (183, .getfield 135, 186, 11, 16, 0, 0), (186, .istore_n 3, 187, 3, 0, 0, 0), (187, .aload_n 0, 188, 0, 0, 0, 0), (188, .dup, 189, 0, 0, 0, 0), (189, .getfield 135, 192, 11, 16, 0, 0), (192, .iconst 1, 193, 0, 0, 1, 0), (193, .iadd, 194, 0, 0, 0, 0), (194, .putfield 135, 197, 11, 16, 0, 0), (197, .aload_n 0, 198, 0, 0, 0, 0), (198, .invokevirtual 162, 201, 0, 0, 0, 0), (201, .aload_n 0, 202, 0, 0, 0, 0), (202, .aload_n 0, 203, 0, 0, 0, 0), (203, .getfield 135, 206, 11, 16, 0, 0), (206, .invokevirtual 138, 209, 1, 0, 0, 0), (209, .bipush 41, 211, 0, 0, 41, 0), (211, .if_icmp .ne 7, 214, 218, 0, 0, 0), (214, .iconst 1, 215, 0, 0, 1, 0), (215, .goto 4, 219, 0, 0, 0, 0), (218, .iconst 0, 219, 0, 0, 0, 0), (219, .istore_n 1, 220, 1, 0, 0, 0), (220, .iload_n 1, 221, 1, 0, 0, 0), (221, .ifCond .eq 13, 224, 234, 0, 0, 0), (224, .aload_n 0, 225, 0, 0, 0, 0), (225, .iconst 1, 226, 0, 0, 1, 0), (226, .iconst 0, 227, 0, 0, 0, 0), (227, .iconst 0, 228, 0, 0, 0, 0), (228, .invokevirtual 171, 231, 3, 0, 0, 0), (231, .goto 29, 260, 0, 0, 0, 0), (234, .aload_n 0, 235, 0, 0, 0, 0), (235, .getfield 44, 238, 11, 17, 0, 0), (238, .aload_n 0, 239, 0, 0, 0, 0), (239, .getfield 148, 242, 11, 18, 0, 0), (242, .bipush 40, 244, 0, 0, 40, 0), (244, .iastore, 245, 0, 0, 0, 0), (245, .aload_n 0, 246, 0, 0, 0, 0), (246, .dup, 247, 0, 0, 0, 0), (247, .getfield 148, 250, 11, 18, 0, 0), (250, .iconst 1, 251, 0, 0, 1, 0), (251, .iadd, 252, 0, 0, 0, 0), (252, .putfield 148, 255, 11, 18, 0, 0), (255, .aload_n 0, 256, 0, 0, 0, 0), (256, .iload_n 3, 257, 3, 0, 0, 0), (257, .putfield 135, 260, 11, 16, 0, 0), (260, .goto 195, 455, 0, 0, 0, 0), (263, .iload_n 1, 264, 1, 0, 0, 0), (264, .ifCond .eq 75, 267, 339, 0, 0, 0), (267, .iload_n 2, 268, 2, 0, 0, 0), (268, .bipush 42, 270, 0, 0, 42, 0), (270, .if_icmp .eq 15, 273, 285, 0, 0, 0), (273, .iload_n 2, 274, 2, 0, 0, 0), (274, .bipush 43, 276, 0, 0, 43, 0), (276, .if_icmp .eq 9, 279, 285, 0, 0, 0), (279, .iload_n 2, 280, 2, 0, 0, 0), (280, .bipush 63, 282, 0, 0, 63, 0), (282, .if_icmp .ne 57, 285, 339, 0, 0, 0), (285, .aload_n 0, 286, 0, 0, 0, 0), (286, .getfield 141, 289, 11, 22, 0, 0), (289, .iconst 1, 290, 0, 0, 1, 0), (290, .isub, 291, 0, 0, 0, 0), (291, .istore_n 3, 292, 3, 0, 0, 0), (292, .iload_n 2, 293, 2, 0, 0, 0), (293, .bipush 63, 295, 0, 0, 63, 0), (295, .if_icmp .eq 19, 298, 314, 0, 0, 0), (298, .aload_n 0, 299, 0, 0, 0, 0), (299, .aload_n 0, 300, 0, 0, 0, 0), (300, .getfield 53, 303, 11, 21, 0, 0), (303, .iload_n 3, 304, 3, 0, 0, 0), (304, .iaload, 305, 0, 0, 0, 0), (305, .aload_n 0, 306, 0, 0, 0, 0), (306, .getfield 50, 309, 11, 20, 0, 0), (309, .iload_n 3, 310, 3, 0, 0, 0), (310, .iaload, 311, 0, 0, 0, 0), (311, .invokevirtual 144, 314, 2, 0, 0, 0), (314, .aload_n 0, 315, 0, 0, 0, 0), (315, .getfield 47, 318, 11, 19, 0, 0), (318, .iload_n 3, 319, 3, 0, 0, 0), (319, .iload_n 2, 320, 2, 0, 0, 0), (320, .bipush 43, 322, 0, 0, 43, 0), (322, .if_icmp .ne 12, 325, 334, 0, 0, 0), (325, .aload_n 0, 326, 0, 0, 0, 0), (326, .getfield 47, 329, 11, 19, 0, 0), (329, .iload_n 3, 330, 3, 0, 0, 0), (330, .iaload, 331, 0, 0, 0, 0), (331, .goto 4, 335, 0, 0, 0, 0), (334, .iconst 1, 335, 0, 0, 1, 0), (335, .iastore, 336, 0, 0, 0, 0), (336, .goto 119, 455, 0, 0, 0, 0), (339, .iload_n 1, 340, 1, 0, 0, 0), (340, .ifCond .eq 39, 343, 379, 0, 0, 0), (343, .iload_n 2, 344, 2, 0, 0, 0), (344, .bipush 124, 346, 0, 0, 124, 0), (346, .if_icmp .ne 33, 349, 379, 0, 0, 0), (349, .aload_n 0, 350, 0, 0, 0, 0), (350, .iconst 1, 351, 0, 0, 1, 0), (351, .invokevirtual 155, 354, 1, 0, 0, 0), (354, .aload_n 0, 355, 0, 0, 0, 0), (355, .getfield 44, 358, 11, 17, 0, 0), (358, .aload_n 0, 359, 0, 0, 0, 0), (359, .getfield 148, 362, 11, 18, 0, 0), (362, .iload_n 2, 363, 2, 0, 0, 0), (363, .iastore, 364, 0, 0, 0, 0), (364, .aload_n 0, 365, 0, 0, 0, 0), (365, .dup, 366, 0, 0, 0, 0), (366, .getfield 148, 369, 11, 18, 0, 0), (369, .iconst 1, 370, 0, 0, 1, 0), (370, .iadd, 371, 0, 0, 0, 0), (371, .putfield 148, 374, 11, 18, 0, 0), (374, .iconst 0, 375, 0, 0, 0, 0), (375, .istore_n 1, 376, 1, 0, 0, 0), (376, .goto 79, 455, 0, 0, 0, 0), (379, .iload_n 1, 380, 1, 0, 0, 0), (380, .ifCond .eq 34, 383, 414, 0, 0, 0), (383, .iload_n 2, 384, 2, 0, 0, 0), (384, .bipush 41, 386, 0, 0, 41, 0), (386, .if_icmp .ne 28, 389, 414, 0, 0, 0), (389, .aload_n 0, 390, 0, 0, 0, 0), (390, .invokevirtual 174, 393, 0, 0, 0, 0), (393, .ifCond .le 21, 396, 414, 0, 0, 0), (396, .aload_n 0, 397, 0, 0, 0, 0), (397, .iconst 1, 398, 0, 0, 1, 0), (398, .invokevirtual 155, 401, 1, 0, 0, 0), (401, .aload_n 0, 402, 0, 0, 0, 0), (402, .dup, 403, 0, 0, 0, 0), (403, .getfield 148, 406, 11, 18, 0, 0), (406, .iconst 1, 407, 0, 0, 1, 0), (407, .isub, 408, 0, 0, 0, 0), (408, .putfield 148, 411, 11, 18, 0, 0), (411, .goto 44, 455, 0, 0, 0, 0), (414, .iload_n 1, 415, 1, 0, 0, 0), (415, .ifCond .eq 35, 418, 450, 0, 0, 0), (418, .iload_n 2, 419, 2, 0, 0, 0), (419, .iconst (-1), 420, 0, 0, -1, 0), (420, .if_icmp .ne 30, 423, 450, 0, 0, 0), (423, .aload_n 0, 424, 0, 0, 0, 0), (424, .invokevirtual 174, 427, 0, 0, 0, 0), (427, .ifCond .ne 23, 430, 450, 0, 0, 0), (430, .aload_n 0, 431, 0, 0, 0, 0), (431, .iconst 1, 432, 0, 0, 1, 0), (432, .invokevirtual 155, 435, 1, 0, 0, 0), (435, .aload_n 0, 436, 0, 0, 0, 0), (436, .getfield 38, 439, 11, 13, 0, 0), (439, .bipush 24, 441, 0, 0, 24, 0), (441, .aload_n 0, 442, 0, 0, 0, 0), (442, .getfield 50, 445, 11, 20, 0, 0), (445, .iconst 0, 446, 0, 0, 0, 0), (446, .iaload, 447, 0, 0, 0, 0), (447, .iastore, 448, 0, 0, 0, 0), (448, .iconst (-1), 449, 0, 0, -1, 0), (449, .ireturn, 450, 0, 0, 0, 0), (450, .aload_n 0, 451, 0, 0, 0, 0), (451, .getfield 135, 454, 11, 16, 0, 0), (454, .ireturn, 455, 0, 0, 0, 0), (455, .aload_n 0, 456, 0, 0, 0, 0), (456, .dup, 457, 0, 0, 0, 0), (457, .getfield 135, 460, 11, 16, 0, 0), (460, .iconst 1, 461, 0, 0, 1, 0), (461, .iadd, 462, 0, 0, 0, 0), (462, .putfield 135, 465, 11, 16, 0, 0), (465, .goto (-401), 64, 0, 0, 0, 0)]
abbrev mX11_readsAll : MD := (yX11_readsAll, cX11_readsAll, 4, (some .int), { frames := 4, cells := 0, slots := 0, locals := 88 }, tbX11_readsAll)
def tbX11_reads : List (Nat × En) := [(0, .iload_n 1, 1, 1, 0, 0, 0), (1, .invokestatic 178, 4, 1, 0, 0, 0), (4, .ifCond .ne 10, 7, 14, 0, 0, 0), (7, .aload_n 0, 8, 0, 0, 0, 0), (8, .bipush (-2), 10, 0, 0, -2, 0), (10, .invokevirtual 112, 13, 1, 0, 0, 0), (13, .ireturn, 14, 0, 0, 0, 0), (14, .aload_n 0, 15, 0, 0, 0, 0), (15, .invokevirtual 181, 18, 0, 0, 0, 0), (18, .istore_n 2, 19, 2, 0, 0, 0), (19, .iload_n 2, 20, 2, 0, 0, 0), (20, .iconst (-1), 21, 0, 0, -1, 0), (21, .if_icmp .eq 8, 24, 29, 0, 0, 0), (24, .bipush (-10), 26, 0, 0, -10, 0), (26, .iload_n 2, 27, 2, 0, 0, 0), (27, .isub, 28, 0, 0, 0, 0), (28, .ireturn, 29, 0, 0, 0, 0), (29, .aload_n 0, 30, 0, 0, 0, 0), (30, .getfield 19, 33, 11, 5, 0, 0), (33, .iload_n 1, 34, 1, 0, 0, 0), (34, .aload_n 0, 35, 0, 0, 0, 0), (35, .getfield 159, 38, 11, 15, 0, 0), (38, .iastore, 39, 0, 0, 0, 0), (39, .iconst 0, 40, 0, 0, 0, 0), (40, .istore_n 3, 41, 3, 0, 0, 0), (41, .iload_n 3, 42, 3, 0, 0, 0), (42, .bipush 25, 44, 0, 0, 25, 0), (44, .if_icmp .ge 26, 47, 70, 0, 0, 0), (47, .aload_n 0, 48, 0, 0, 0, 0), (48, .getfield 22, 51, 11, 6, 0, 0), (51, .bipush 25, 53, 0, 0, 25, 0), (53, .iload_n 1, 54, 1, 0, 0, 0), (54, .imul, 55, 0, 0, 0, 0), (55, .iload_n 3, 56, 3, 0, 0, 0), (56, .iadd, 57, 0, 0, 0, 0), (57, .aload_n 0, 58, 0, 0, 0, 0), (58, .getfield 38, 61, 11, 13, 0, 0), (61, .iload_n 3, 62, 3, 0, 0, 0), (62, .iaload, 63, 0, 0, 0, 0), (63, .iastore, 64, 0, 0, 0, 0), (64, .iinc 3 1, 67, 3, 0, 1, 0), (67, .goto (-26), 41, 0, 0, 0, 0), (70, .iconst 0, 71, 0, 0, 0, 0), (71, .istore_n 3, 72, 3, 0, 0, 0), (72, .iload_n 3, 73, 3, 0, 0, 0), (73, .bipush 8, 75, 0, 0, 8, 0), (75, .if_icmp .ge 26, 78, 101, 0, 0, 0), (78, .aload_n 0, 79, 0, 0, 0, 0), (79, .getfield 25, 82, 11, 7, 0, 0), (82, .bipush 8, 84, 0, 0, 8, 0), (84, .iload_n 1, 85, 1, 0, 0, 0), (85, .imul, 86, 0, 0, 0, 0), (86, .iload_n 3, 87, 3, 0, 0, 0), (87, .iadd, 88, 0, 0, 0, 0), (88, .aload_n 0, 89, 0, 0, 0, 0), (89, .getfield 41, 92, 11, 14, 0, 0), (92, .iload_n 3, 93, 3, 0, 0, 0), (93, .iaload, 94, 0, 0, 0, 0), (94, .iastore, 95, 0, 0, 0, 0), (95, .iinc 3 1, 98, 3, 0, 1, 0), (98, .goto (-26), 72, 0, 0, 0, 0), (101, .aload_n 0, 102, 0, 0, 0, 0), (102, .getfield 28, 105, 11, 8, 0, 0), (105, .iload_n 1, 106, 1, 0, 0, 0), (106, .aload_n 0, 107, 0, 0, 0, 0), (107, .getfield 53, 110, 11, 21, 0, 0), (110, .iconst 0, 111, 0, 0, 0, 0), (111, .iaload, 112, 0, 0, 0, 0), (112, .aload_n 0, 113, 0, 0, 0, 0), (113, .getfield 47, 116, 11, 19, 0, 0), (116, .iconst 0, 117, 0, 0, 0, 0), (117, .iaload, 118, 0, 0, 0, 0), (118, .bipush 24, 120, 0, 0, 24, 0), (120, .ishl, 121, 0, 0, 0, 0), (121, .ior, 122, 0, 0, 0, 0), (122, .iastore, 123, 0, 0, 0, 0), (123, .aload_n 0, 124, 0, 0, 0, 0), (124, .getfield 31, 127, 11, 9, 0, 0), (127, .iload_n 1, 128, 1, 0, 0, 0), (128, .if_icmp .ne 9, 131, 137, 0, 0, 0), (131, .aload_n 0, 132, 0, 0, 0, 0), (132, .iconst 1, 133, 0, 0, 1, 0), (133, .invokevirtual 122, 136, 1, 0, 0, 0), (136, .pop, 137, 0, 0, 0, 0), (137, .aload_n 0, 138, 0, 0, 0, 0), (138, .getfield 159, 141, 11, 15, 0, 0), (141, .ireturn, 142, 0, 0, 0, 0)]
abbrev mX11_reads : MD := (yX11_reads, cX11_reads, 4, (some .int), { frames := 5, cells := 0, slots := 0, locals := 121 }, tbX11_reads)
def tbX11_comes : List (Nat × En) := [(0, .iload_n 2, 1, 2, 0, 0, 0), (1, .aload_n 0, 2, 0, 0, 0, 0), (2, .getfield 25, 5, 11, 7, 0, 0), (5, .bipush 8, 7, 0, 0, 8, 0), (7, .iload_n 1, 8, 1, 0, 0, 0), (8, .imul, 9, 0, 0, 0, 0), (9, .iload_n 3, 10, 3, 0, 0, 0), (10, .iadd, 11, 0, 0, 0, 0), (11, .iaload, 12, 0, 0, 0, 0), (12, .iand, 13, 0, 0, 0, 0), (13, .istore 4, 15, 4, 0, 0, 0), (15, .iconst 0, 16, 0, 0, 0, 0), (16, .istore 5, 18, 5, 0, 0, 0), (18, .iconst 0, 19, 0, 0, 0, 0), (19, .istore 6, 21, 6, 0, 0, 0), (21, .iload 6, 23, 6, 0, 0, 0), (23, .bipush 25, 25, 0, 0, 25, 0), (25, .if_icmp .ge 40, 28, 65, 0, 0, 0), (28, .iload 5, 30, 5, 0, 0, 0), (30, .aload_n 0, 31, 0, 0, 0, 0), (31, .getfield 22, 34, 11, 6, 0, 0), (34, .bipush 25, 36, 0, 0, 25, 0), (36, .iload_n 1, 37, 1, 0, 0, 0), (37, .imul, 38, 0, 0, 0, 0), (38, .iload 6, 40, 6, 0, 0, 0), (40, .iadd, 41, 0, 0, 0, 0), (41, .iaload, 42, 0, 0, 0, 0), (42, .iload 4, 44, 4, 0, 0, 0), (44, .iand, 45, 0, 0, 0, 0), (45, .ifCond .eq 10, 48, 55, 0, 0, 0), (48, .iconst 1, 49, 0, 0, 1, 0), (49, .iload 6, 51, 6, 0, 0, 0), (51, .ishl, 52, 0, 0, 0, 0), (52, .goto 4, 56, 0, 0, 0, 0), (55, .iconst 0, 56, 0, 0, 0, 0), (56, .ior, 57, 0, 0, 0, 0), (57, .istore 5, 59, 5, 0, 0, 0), (59, .iinc 6 1, 62, 6, 0, 1, 0), (62, .goto (-41), 21, 0, 0, 0, 0), (65, .iload 5, 67, 5, 0, 0, 0), (67, .ireturn, 68, 0, 0, 0, 0)]
abbrev mX11_comes : MD := (yX11_comes, cX11_comes, 7, (some .int), { frames := 0, cells := 0, slots := 0, locals := 0 }, tbX11_comes)
def tbX11_statesOf : List (Nat × En) := [(0, .aload_n 0, 1, 0, 0, 0, 0), (1, .getfield 68, 4, 11, 27, 0, 0), (4, .iconst 0, 5, 0, 0, 0, 0), (5, .ldc 184, 7, 0, 0, 16777216, 0), (7, .iastore, 8, 0, 0, 0, 0), (8, .iconst 1, 9, 0, 0, 1, 0), (9, .istore_n 2, 10, 2, 0, 0, 0), (10, .iconst 0, 11, 0, 0, 0, 0), (11, .istore_n 3, 12, 3, 0, 0, 0), (12, .iload_n 3, 13, 3, 0, 0, 0), (13, .iload_n 2, 14, 2, 0, 0, 0), (14, .if_icmp .ge 117, 17, 131, 0, 0, 0), (17, .iconst 0, 18, 0, 0, 0, 0), (18, .istore 4, 20, 4, 0, 0, 0), (20, .iload 4, 22, 4, 0, 0, 0), (22, .bipush 8, 24, 0, 0, 8, 0), (24, .if_icmp .ge 101, 27, 125, 0, 0, 0), (27, .aload_n 0, 28, 0, 0, 0, 0), (28, .iload_n 1, 29, 1, 0, 0, 0), (29, .aload_n 0, 30, 0, 0, 0, 0), (30, .getfield 68, 33, 11, 27, 0, 0), (33, .iload_n 3, 34, 3, 0, 0, 0), (34, .iaload, 35, 0, 0, 0, 0), (35, .iload 4, 37, 4, 0, 0, 0), (37, .invokevirtual 185, 40, 3, 0, 0, 0), (40, .istore 5, 42, 5, 0, 0, 0), (42, .iconst 0, 43, 0, 0, 0, 0), (43, .istore 6, 45, 6, 0, 0, 0), (45, .iconst 0, 46, 0, 0, 0, 0), (46, .istore 7, 48, 7, 0, 0, 0), (48, .iload 7, 50, 7, 0, 0, 0), (50, .iload_n 2, 51, 2, 0, 0, 0), (51, .if_icmp .ge 33, 54, 84, 0, 0, 0), (54, .iload 6, 56, 6, 0, 0, 0), (56, .ifCond .ne 15, 59, 71, 0, 0, 0), (59, .aload_n 0, 60, 0, 0, 0, 0), (60, .getfield 68, 63, 11, 27, 0, 0), (63, .iload 7, 65, 7, 0, 0, 0), (65, .iaload, 66, 0, 0, 0, 0), (66, .iload 5, 68, 5, 0, 0, 0), (68, .if_icmp .ne 7, 71, 75, 0, 0, 0), (71, .iconst 1, 72, 0, 0, 1, 0), (72, .goto 4, 76, 0, 0, 0, 0), (75, .iconst 0, 76, 0, 0, 0, 0), (76, .istore 6, 78, 6, 0, 0, 0), (78, .iinc 7 1, 81, 7, 0, 1, 0), (81, .goto (-33), 48, 0, 0, 0, 0), (84, .iload 6, 86, 6, 0, 0, 0), (86, .ifCond .ne 17, 89, 103, 0, 0, 0), (89, .iload_n 2, 90, 2, 0, 0, 0), (90, .sipush 200, 93, 0, 0, 200, 0), (93, .if_icmp .ne 10, 96, 103, 0, 0, 0), (96, .aload_n 0, 97, 0, 0, 0, 0), (97, .bipush (-4), 99, 0, 0, -4, 0), (99, .invokevirtual 112, 102, 1, 0, 0, 0), (102, .ireturn, 103, 0, 0, 0, 0), (103, .iload 6, 105, 6, 0, 0, 0), (105, .ifCond .ne 14, 108, 119, 0, 0, 0), (108, .aload_n 0, 109, 0, 0, 0, 0), (109, .getfield 68, 112, 11, 27, 0, 0), (112, .iload_n 2, 113, 2, 0, 0, 0), (113, .iload 5, 115, 5, 0, 0, 0), (115, .iastore, 116, 0, 0, 0, 0), (116, .iinc 2 1, 119, 2, 0, 1, 0), (119, .iinc 4 1, 122, 4, 0, 1, 0), (122, .goto (-102), 20, 0, 0, 0, 0), (125, .iinc 3 1, 128, 3, 0, 1, 0), (128, .goto (-116), 12, 0, 0, 0, 0), (131, .iload_n 2, 132, 2, 0, 0, 0), (132, .ireturn, 133, 0, 0, 0, 0)]
abbrev mX11_statesOf : MD := (yX11_statesOf, cX11_statesOf, 8, (some .int), { frames := 1, cells := 0, slots := 0, locals := 25 }, tbX11_statesOf)
def tbX11_about : List (Nat × En) := [(0, .iload_n 1, 1, 1, 0, 0, 0), (1, .invokestatic 178, 4, 1, 0, 0, 0), (4, .ifCond .eq 12, 7, 16, 0, 0, 0), (7, .iload_n 2, 8, 2, 0, 0, 0), (8, .iconst 0, 9, 0, 0, 0, 0), (9, .iconst 4, 10, 0, 0, 4, 0), (10, .invokestatic 84, 13, 3, 0, 0, 0), (13, .ifCond .ne 10, 16, 23, 0, 0, 0), (16, .aload_n 0, 17, 0, 0, 0, 0), (17, .bipush (-2), 19, 0, 0, -2, 0), (19, .invokevirtual 112, 22, 1, 0, 0, 0), (22, .ireturn, 23, 0, 0, 0, 0), (23, .aload_n 0, 24, 0, 0, 0, 0), (24, .getfield 19, 27, 11, 5, 0, 0), (27, .iload_n 1, 28, 1, 0, 0, 0), (28, .iaload, 29, 0, 0, 0, 0), (29, .ifCond .ge 5, 32, 34, 0, 0, 0), (32, .iconst (-1), 33, 0, 0, -1, 0), (33, .ireturn, 34, 0, 0, 0, 0), (34, .iload_n 2, 35, 2, 0, 0, 0), (35, .tableswitch 77 0 3 #[29, 36, 48, 64], 64, 0, 29, 0, 0), (64, .aload_n 0, 65, 0, 0, 0, 0), (65, .getfield 19, 68, 11, 5, 0, 0), (68, .iload_n 1, 69, 1, 0, 0, 0), (69, .iaload, 70, 0, 0, 0, 0), (70, .ireturn, 71, 0, 0, 0, 0), (71, .aload_n 0, 72, 0, 0, 0, 0), (72, .getfield 28, 75, 11, 8, 0, 0), (75, .iload_n 1, 76, 1, 0, 0, 0), (76, .iaload, 77, 0, 0, 0, 0), (77, .bipush 24, 79, 0, 0, 24, 0), (79, .ishr, 80, 0, 0, 0, 0), (80, .iconst 1, 81, 0, 0, 1, 0), (81, .iand, 82, 0, 0, 0, 0), (82, .ireturn, 83, 0, 0, 0, 0), (83, .aload_n 0, 84, 0, 0, 0, 0), (84, .getfield 22, 87, 11, 6, 0, 0), (87, .bipush 25, 89, 0, 0, 25, 0), (89, .iload_n 1, 90, 1, 0, 0, 0), (90, .imul, 91, 0, 0, 0, 0), (91, .bipush 24, 93, 0, 0, 24, 0), (93, .iadd, 94, 0, 0, 0, 0), (94, .iaload, 95, 0, 0, 0, 0), (95, .invokestatic 105, 98, 1, 0, 0, 0), (98, .ireturn, 99, 0, 0, 0, 0), (99, .aload_n 0, 100, 0, 0, 0, 0), (100, .getfield 28, 103, 11, 8, 0, 0), (103, .iload_n 1, 104, 1, 0, 0, 0), (104, .iaload, 105, 0, 0, 0, 0), (105, .ldc 189, 107, 0, 0, 16777215, 0), (107, .iand, 108, 0, 0, 0, 0), (108, .invokestatic 105, 111, 1, 0, 0, 0), (111, .ireturn, 112, 0, 0, 0, 0), (112, .aload_n 0, 113, 0, 0, 0, 0), (113, .iload_n 1, 114, 1, 0, 0, 0), (114, .invokevirtual 190, 117, 1, 0, 0, 0), (117, .ireturn, 118, 0, 0, 0, 0)]
abbrev mX11_about : MD := (yX11_about, cX11_about, 3, (some .int), { frames := 2, cells := 0, slots := 0, locals := 52 }, tbX11_about)
def tbX11_accepts : List (Nat × En) := [(0, .iload_n 1, 1, 1, 0, 0, 0), (1, .invokestatic 178, 4, 1, 0, 0, 0), (4, .ifCond .eq 17, 7, 21, 0, 0, 0), (7, .iload_n 2, 8, 2, 0, 0, 0), (8, .iconst 0, 9, 0, 0, 0, 0), (9, .bipush 9, 11, 0, 0, 9, 0), (11, .invokestatic 84, 14, 3, 0, 0, 0), (14, .ifCond .eq 7, 17, 21, 0, 0, 0), (17, .iload_n 3, 18, 3, 0, 0, 0), (18, .ifCond .ge 10, 21, 28, 0, 0, 0), (21, .aload_n 0, 22, 0, 0, 0, 0), (22, .bipush (-2), 24, 0, 0, -2, 0), (24, .invokevirtual 112, 27, 1, 0, 0, 0), (27, .ireturn, 28, 0, 0, 0, 0), (28, .iload_n 3, 29, 3, 0, 0, 0), (29, .istore 4, 31, 4, 0, 0, 0), (31, .iconst 1, 32, 0, 0, 1, 0), (32, .istore 5, 34, 5, 0, 0, 0), (34, .iconst 1, 35, 0, 0, 1, 0), (35, .istore 6, 37, 6, 0, 0, 0), (37, .iconst 0, 38, 0, 0, 0, 0), (38, .istore 7, 40, 7, 0, 0, 0), (40, .iload 7, 42, 7, 0, 0, 0), (42, .iload_n 2, 43, 2, 0, 0, 0), (43, .if_icmp .ge 57, 46, 100, 0, 0, 0), (46, .iload 6, 48, 6, 0, 0, 0), (48, .ifCond .eq 17, 51, 65, 0, 0, 0), (51, .iload 4, 53, 4, 0, 0, 0), (53, .bipush 10, 55, 0, 0, 10, 0), (55, .irem, 56, 0, 0, 0, 0), (56, .bipush 8, 58, 0, 0, 8, 0), (58, .if_icmp .ge 7, 61, 65, 0, 0, 0), (61, .iconst 1, 62, 0, 0, 1, 0), (62, .goto 4, 66, 0, 0, 0, 0), (65, .iconst 0, 66, 0, 0, 0, 0), (66, .istore 6, 68, 6, 0, 0, 0), (68, .iload 4, 70, 4, 0, 0, 0), (70, .bipush 10, 72, 0, 0, 10, 0), (72, .idiv, 73, 0, 0, 0, 0), (73, .istore 4, 75, 4, 0, 0, 0), (75, .iload 5, 77, 5, 0, 0, 0), (77, .iload 7, 79, 7, 0, 0, 0), (79, .iconst 1, 80, 0, 0, 1, 0), (80, .iadd, 81, 0, 0, 0, 0), (81, .iload_n 2, 82, 2, 0, 0, 0), (82, .if_icmp .ge 8, 85, 90, 0, 0, 0), (85, .bipush 10, 87, 0, 0, 10, 0), (87, .goto 4, 91, 0, 0, 0, 0), (90, .iconst 1, 91, 0, 0, 1, 0), (91, .imul, 92, 0, 0, 0, 0), (92, .istore 5, 94, 5, 0, 0, 0), (94, .iinc 7 1, 97, 7, 0, 1, 0), (97, .goto (-57), 40, 0, 0, 0, 0), (100, .iload 4, 102, 4, 0, 0, 0), (102, .ifCond .gt 8, 105, 110, 0, 0, 0), (105, .iload 6, 107, 6, 0, 0, 0), (107, .ifCond .ne 10, 110, 117, 0, 0, 0), (110, .aload_n 0, 111, 0, 0, 0, 0), (111, .bipush (-2), 113, 0, 0, -2, 0), (113, .invokevirtual 112, 116, 1, 0, 0, 0), (116, .ireturn, 117, 0, 0, 0, 0), (117, .aload_n 0, 118, 0, 0, 0, 0), (118, .getfield 19, 121, 11, 5, 0, 0), (121, .iload_n 1, 122, 1, 0, 0, 0), (122, .iaload, 123, 0, 0, 0, 0), (123, .ifCond .ge 10, 126, 133, 0, 0, 0), (126, .aload_n 0, 127, 0, 0, 0, 0), (127, .bipush (-3), 129, 0, 0, -3, 0), (129, .invokevirtual 112, 132, 1, 0, 0, 0), (132, .ireturn, 133, 0, 0, 0, 0), (133, .ldc 184, 135, 0, 0, 16777216, 0), (135, .istore 7, 137, 7, 0, 0, 0), (137, .iconst 0, 138, 0, 0, 0, 0), (138, .istore 8, 140, 8, 0, 0, 0), (140, .iload 8, 142, 8, 0, 0, 0), (142, .iload_n 2, 143, 2, 0, 0, 0), (143, .if_icmp .ge 32, 146, 175, 0, 0, 0), (146, .aload_n 0, 147, 0, 0, 0, 0), (147, .iload_n 1, 148, 1, 0, 0, 0), (148, .iload 7, 150, 7, 0, 0, 0), (150, .iload_n 3, 151, 3, 0, 0, 0), (151, .iload 5, 153, 5, 0, 0, 0), (153, .idiv, 154, 0, 0, 0, 0), (154, .bipush 10, 156, 0, 0, 10, 0), (156, .irem, 157, 0, 0, 0, 0), (157, .invokevirtual 185, 160, 3, 0, 0, 0), (160, .istore 7, 162, 7, 0, 0, 0), (162, .iload 5, 164, 5, 0, 0, 0), (164, .bipush 10, 166, 0, 0, 10, 0), (166, .idiv, 167, 0, 0, 0, 0), (167, .istore 5, 169, 5, 0, 0, 0), (169, .iinc 8 1, 172, 8, 0, 1, 0), (172, .goto (-32), 140, 0, 0, 0, 0), (175, .iload 7, 177, 7, 0, 0, 0), (177, .aload_n 0, 178, 0, 0, 0, 0), (178, .getfield 28, 181, 11, 8, 0, 0), (181, .iload_n 1, 182, 1, 0, 0, 0), (182, .iaload, 183, 0, 0, 0, 0), (183, .iand, 184, 0, 0, 0, 0), (184, .ifCond .eq 7, 187, 191, 0, 0, 0), (187, .iconst 1, 188, 0, 0, 1, 0), (188, .goto 4, 192, 0, 0, 0, 0), (191, .iconst 0, 192, 0, 0, 0, 0), (192, .ireturn, 193, 0, 0, 0, 0)]
abbrev mX11_accepts : MD := (yX11_accepts, cX11_accepts, 9, (some .int), { frames := 2, cells := 0, slots := 0, locals := 42 }, tbX11_accepts)
def tbX11_numberOf : List (Nat × En) := [(0, .iconst 0, 1, 0, 0, 0, 0), (1, .istore_n 2, 2, 2, 0, 0, 0), (2, .iload_n 2, 3, 2, 0, 0, 0), (3, .aload_n 0, 4, 0, 0, 0, 0), (4, .getfield 193, 7, 11, 29, 0, 0), (7, .if_icmp .ge 19, 10, 26, 0, 0, 0), (10, .aload_n 0, 11, 0, 0, 0, 0), (11, .getfield 68, 14, 11, 27, 0, 0), (14, .iload_n 2, 15, 2, 0, 0, 0), (15, .iaload, 16, 0, 0, 0, 0), (16, .iload_n 1, 17, 1, 0, 0, 0), (17, .if_icmp .eq 9, 20, 26, 0, 0, 0), (20, .iinc 2 1, 23, 2, 0, 1, 0), (23, .goto (-21), 2, 0, 0, 0, 0), (26, .iload_n 2, 27, 2, 0, 0, 0), (27, .aload_n 0, 28, 0, 0, 0, 0), (28, .getfield 193, 31, 11, 29, 0, 0), (31, .if_icmp .ge 5, 34, 36, 0, 0, 0), (34, .iload_n 2, 35, 2, 0, 0, 0), (35, .ireturn, 36, 0, 0, 0, 0), (36, .aload_n 0, 37, 0, 0, 0, 0), (37, .getfield 193, 40, 11, 29, 0, 0), (40, .sipush 400, 43, 0, 0, 400, 0), (43, .if_icmp .ne 5, 46, 48, 0, 0, 0), (46, .iconst (-1), 47, 0, 0, -1, 0), (47, .ireturn, 48, 0, 0, 0, 0), (48, .aload_n 0, 49, 0, 0, 0, 0), (49, .getfield 68, 52, 11, 27, 0, 0), (52, .aload_n 0, 53, 0, 0, 0, 0), (53, .getfield 193, 56, 11, 29, 0, 0), (56, .iload_n 1, 57, 1, 0, 0, 0), (57, .iastore, 58, 0, 0, 0, 0), (58, .aload_n 0, 59, 0, 0, 0, 0), (59, .dup, 60, 0, 0, 0, 0), (60, .getfield 193, 63, 11, 29, 0, 0), (63, .iconst 1, 64, 0, 0, 1, 0), (64, .iadd, 65, 0, 0, 0, 0), (65, .putfield 193, 68, 11, 29, 0, 0), (68, .iload_n 2, 69, 2, 0, 0, 0), (69, .ireturn, 70, 0, 0, 0, 0)]
abbrev mX11_numberOf : MD := (yX11_numberOf, cX11_numberOf, 3, (some .int), { frames := 0, cells := 0, slots := 0, locals := 0 }, tbX11_numberOf)
def tbX11_turns : List (Nat × En) := [(0, .aload_n 0, 1, 0, 0, 0, 0), (1, .aload_n 0, 2, 0, 0, 0, 0), (2, .iload_n 1, 3, 1, 0, 0, 0), (3, .aload_n 0, 4, 0, 0, 0, 0), (4, .getfield 68, 7, 11, 27, 0, 0), (7, .iload_n 3, 8, 3, 0, 0, 0), (8, .iaload, 9, 0, 0, 0, 0), (9, .iload 4, 11, 4, 0, 0, 0), (11, .invokevirtual 185, 14, 3, 0, 0, 0), (14, .invokevirtual 196, 17, 1, 0, 0, 0), (17, .istore 7, 19, 7, 0, 0, 0), (19, .iload 7, 21, 7, 0, 0, 0), (21, .ifCond .ge 5, 24, 26, 0, 0, 0), (24, .iconst 0, 25, 0, 0, 0, 0), (25, .ireturn, 26, 0, 0, 0, 0), (26, .aload_n 0, 27, 0, 0, 0, 0), (27, .getfield 78, 30, 11, 31, 0, 0), (30, .sipush 400, 33, 0, 0, 400, 0), (33, .iload_n 2, 34, 2, 0, 0, 0), (34, .imul, 35, 0, 0, 0, 0), (35, .iload 7, 37, 7, 0, 0, 0), (37, .iadd, 38, 0, 0, 0, 0), (38, .laload, 39, 0, 0, 0, 0), (39, .lload 5, 41, 5, 0, 0, 0), (41, .ladd, 42, 0, 0, 0, 0), (42, .lstore 8, 44, 8, 0, 0, 0), (44, .aload_n 0, 45, 0, 0, 0, 0), (45, .getfield 78, 48, 11, 31, 0, 0), (48, .sipush 400, 51, 0, 0, 400, 0), (51, .iload_n 2, 52, 2, 0, 0, 0), (52, .imul, 53, 0, 0, 0, 0), (53, .iload 7, 55, 7, 0, 0, 0), (55, .iadd, 56, 0, 0, 0, 0), (56, .lload 8, 58, 8, 0, 0, 0), (58, .ldc2_w 199, 61, 0, 0, 0, 1000000000), (61, .lcmp, 62, 0, 0, 0, 0), (62, .ifCond .le 9, 65, 71, 0, 0, 0), (65, .ldc2_w 201, 68, 0, 0, 0, 1000000001), (68, .goto 5, 73, 0, 0, 0, 0), (71, .lload 8, 73, 8, 0, 0, 0), (73, .lastore, 74, 0, 0, 0, 0), (74, .iconst 1, 75, 0, 0, 1, 0), (75, .ireturn, 76, 0, 0, 0, 0)]
abbrev mX11_turns : MD := (yX11_turns, cX11_turns, 10, (some .boolean), { frames := 1, cells := 0, slots := 0, locals := 25 }, tbX11_turns)
def tbX11_steps : List (Nat × En) := [(0, .aload_n 0, 1, 0, 0, 0, 0), (1, .getfield 193, 4, 11, 29, 0, 0), (4, .istore_n 3, 5, 3, 0, 0, 0), (5, .iconst 0, 6, 0, 0, 0, 0), (6, .istore 4, 8, 4, 0, 0, 0), (8, .iload 4, 10, 4, 0, 0, 0), (10, .aload_n 0, 11, 0, 0, 0, 0), (11, .getfield 74, 14, 11, 30, 0, 0), (14, .arraylength, 15, 0, 0, 0, 0), (15, .if_icmp .ge 17, 18, 32, 0, 0, 0), (18, .aload_n 0, 19, 0, 0, 0, 0), (19, .getfield 78, 22, 11, 31, 0, 0), (22, .iload 4, 24, 4, 0, 0, 0), (24, .lconst 0, 25, 0, 0, 0, 0), (25, .lastore, 26, 0, 0, 0, 0), (26, .iinc 4 1, 29, 4, 0, 1, 0), (29, .goto (-21), 8, 0, 0, 0, 0), (32, .iconst 0, 33, 0, 0, 0, 0), (33, .istore 4, 35, 4, 0, 0, 0), (35, .iload 4, 37, 4, 0, 0, 0), (37, .bipush 10, 39, 0, 0, 10, 0), (39, .if_icmp .ge 188, 42, 227, 0, 0, 0), (42, .iconst 0, 43, 0, 0, 0, 0), (43, .istore 5, 45, 5, 0, 0, 0), (45, .iload 5, 47, 5, 0, 0, 0), (47, .iload_n 3, 48, 3, 0, 0, 0), (48, .if_icmp .ge 173, 51, 221, 0, 0, 0), (51, .aload_n 0, 52, 0, 0, 0, 0), (52, .getfield 74, 55, 11, 30, 0, 0), (55, .sipush 400, 58, 0, 0, 400, 0), (58, .iload 4, 60, 4, 0, 0, 0), (60, .imul, 61, 0, 0, 0, 0), (61, .iload 5, 63, 5, 0, 0, 0), (63, .iadd, 64, 0, 0, 0, 0), (64, .laload, 65, 0, 0, 0, 0), (65, .lstore 6, 67, 6, 0, 0, 0), (67, .iconst 0, 68, 0, 0, 0, 0), (68, .istore 8, 70, 8, 0, 0, 0), (70, .iload 8, 72, 8, 0, 0, 0), (72, .bipush 8, 74, 0, 0, 8, 0), (74, .if_icmp .ge 38, 77, 112, 0, 0, 0), (77, .iload_n 2, 78, 2, 0, 0, 0), (78, .ifCond .eq 34, 81, 112, 0, 0, 0), (81, .lload 6, 83, 6, 0, 0, 0), (83, .lconst 0, 84, 0, 0, 0, 0), (84, .lcmp, 85, 0, 0, 0, 0), (85, .ifCond .le 27, 88, 112, 0, 0, 0), (88, .aload_n 0, 89, 0, 0, 0, 0), (89, .iload_n 1, 90, 1, 0, 0, 0), (90, .iload 4, 92, 4, 0, 0, 0), (92, .iload 5, 94, 5, 0, 0, 0), (94, .iload 8, 96, 8, 0, 0, 0), (96, .lload 6, 98, 6, 0, 0, 0), (98, .invokevirtual 203, 101, 5, 0, 0, 0), (101, .ifCond .ne 5, 104, 106, 0, 0, 0), (104, .iconst 0, 105, 0, 0, 0, 0), (105, .ireturn, 106, 0, 0, 0, 0), (106, .iinc 8 1, 109, 8, 0, 1, 0), (109, .goto (-39), 70, 0, 0, 0, 0), (112, .iconst 0, 113, 0, 0, 0, 0), (113, .istore 8, 115, 8, 0, 0, 0), (115, .iload 8, 117, 8, 0, 0, 0), (117, .aload_n 0, 118, 0, 0, 0, 0), (118, .getfield 88, 121, 11, 1, 0, 0), (121, .if_icmp .ge 94, 124, 215, 0, 0, 0), (124, .iload_n 2, 125, 2, 0, 0, 0), (125, .ifCond .ne 90, 128, 215, 0, 0, 0), (128, .lload 6, 130, 6, 0, 0, 0), (130, .lconst 0, 131, 0, 0, 0, 0), (131, .lcmp, 132, 0, 0, 0, 0), (132, .ifCond .le 83, 135, 215, 0, 0, 0), (135, .aload_n 0, 136, 0, 0, 0, 0), (136, .iload 8, 138, 8, 0, 0, 0), (138, .invokevirtual 91, 141, 1, 0, 0, 0), (141, .iload 4, 143, 4, 0, 0, 0), (143, .if_icmp .ne 27, 146, 170, 0, 0, 0), (146, .aload_n 0, 147, 0, 0, 0, 0), (147, .iload_n 1, 148, 1, 0, 0, 0), (148, .aload_n 0, 149, 0, 0, 0, 0), (149, .iload 8, 151, 8, 0, 0, 0), (151, .invokevirtual 98, 154, 1, 0, 0, 0), (154, .iload 5, 156, 5, 0, 0, 0), (156, .aload_n 0, 157, 0, 0, 0, 0), (157, .iload 8, 159, 8, 0, 0, 0), (159, .invokevirtual 95, 162, 1, 0, 0, 0), (162, .lload 6, 164, 6, 0, 0, 0), (164, .invokevirtual 203, 167, 5, 0, 0, 0), (167, .ifCond .eq 40, 170, 207, 0, 0, 0), (170, .aload_n 0, 171, 0, 0, 0, 0), (171, .iload 8, 173, 8, 0, 0, 0), (173, .invokevirtual 98, 176, 1, 0, 0, 0), (176, .iload 4, 178, 4, 0, 0, 0), (178, .if_icmp .ne 31, 181, 209, 0, 0, 0), (181, .aload_n 0, 182, 0, 0, 0, 0), (182, .iload_n 1, 183, 1, 0, 0, 0), (183, .aload_n 0, 184, 0, 0, 0, 0), (184, .iload 8, 186, 8, 0, 0, 0), (186, .invokevirtual 91, 189, 1, 0, 0, 0), (189, .iload 5, 191, 5, 0, 0, 0), (191, .aload_n 0, 192, 0, 0, 0, 0), (192, .iload 8, 194, 8, 0, 0, 0), (194, .invokevirtual 95, 197, 1, 0, 0, 0), (197, .iconst 4, 198, 0, 0, 4, 0), (198, .iadd, 199, 0, 0, 0, 0), (199, .lload 6, 201, 6, 0, 0, 0), (201, .invokevirtual 203, 204, 5, 0, 0, 0), (204, .ifCond .ne 5, 207, 209, 0, 0, 0), (207, .iconst 0, 208, 0, 0, 0, 0), (208, .ireturn, 209, 0, 0, 0, 0), (209, .iinc 8 1, 212, 8, 0, 1, 0), (212, .goto (-97), 115, 0, 0, 0, 0), (215, .iinc 5 1, 218, 5, 0, 1, 0), (218, .goto (-173), 45, 0, 0, 0, 0), (221, .iinc 4 1, 224, 4, 0, 1, 0), (224, .goto (-189), 35, 0, 0, 0, 0), (227, .iconst 0, 228, 0, 0, 0, 0), (228, .istore 4, 230, 4, 0, 0, 0), (230, .iload 4, 232, 4, 0, 0, 0), (232, .aload_n 0, 233, 0, 0, 0, 0), (233, .getfield 74, 236, 11, 30, 0, 0), (236, .arraylength, 237, 0, 0, 0, 0), (237, .if_icmp .ge 23, 240, 260, 0, 0, 0), (240, .aload_n 0, 241, 0, 0, 0, 0), (241, .getfield 74, 244, 11, 30, 0, 0), (244, .iload 4, 246, 4, 0, 0, 0), (246, .aload_n 0, 247, 0, 0, 0, 0), (247, .getfield 78, 250, 11, 31, 0, 0), (250, .iload 4, 252, 4, 0, 0, 0), (252, .laload, 253, 0, 0, 0, 0), (253, .lastore, 254, 0, 0, 0, 0), (254, .iinc 4 1, 257, 4, 0, 1, 0), (257, .goto (-27), 230, 0, 0, 0, 0), (260, .iconst 1, 261, 0, 0, 1, 0), (261, .ireturn, 262, 0, 0, 0, 0)]
abbrev mX11_steps : MD := (yX11_steps, cX11_steps, 9, (some .boolean), { frames := 2, cells := 0, slots := 0, locals := 54 }, tbX11_steps)
def tbX11_ways : List (Nat × En) := [(0, .iconst 0, 1, 0, 0, 0, 0), (1, .istore 6, 3, 6, 0, 0, 0), (3, .iload 6, 5, 6, 0, 0, 0), (5, .aload_n 0, 6, 0, 0, 0, 0), (6, .getfield 74, 9, 11, 30, 0, 0), (9, .arraylength, 10, 0, 0, 0, 0), (10, .if_icmp .ge 17, 13, 27, 0, 0, 0), (13, .aload_n 0, 14, 0, 0, 0, 0), (14, .getfield 74, 17, 11, 30, 0, 0), (17, .iload 6, 19, 6, 0, 0, 0), (19, .lconst 0, 20, 0, 0, 0, 0), (20, .lastore, 21, 0, 0, 0, 0), (21, .iinc 6 1, 24, 6, 0, 1, 0), (24, .goto (-21), 3, 0, 0, 0, 0), (27, .aload_n 0, 28, 0, 0, 0, 0), (28, .getfield 68, 31, 11, 27, 0, 0), (31, .iconst 0, 32, 0, 0, 0, 0), (32, .ldc 184, 34, 0, 0, 16777216, 0), (34, .iastore, 35, 0, 0, 0, 0), (35, .aload_n 0, 36, 0, 0, 0, 0), (36, .iconst 1, 37, 0, 0, 1, 0), (37, .putfield 193, 40, 11, 29, 0, 0), (40, .aload_n 0, 41, 0, 0, 0, 0), (41, .getfield 74, 44, 11, 30, 0, 0), (44, .sipush 400, 47, 0, 0, 400, 0), (47, .iload_n 2, 48, 2, 0, 0, 0), (48, .imul, 49, 0, 0, 0, 0), (49, .lconst 1, 50, 0, 0, 0, 1), (50, .lastore, 51, 0, 0, 0, 0), (51, .iconst 0, 52, 0, 0, 0, 0), (52, .istore 6, 54, 6, 0, 0, 0), (54, .iload 6, 56, 6, 0, 0, 0), (56, .iload 4, 58, 4, 0, 0, 0), (58, .if_icmp .ge 26, 61, 84, 0, 0, 0), (61, .aload_n 0, 62, 0, 0, 0, 0), (62, .iload_n 1, 63, 1, 0, 0, 0), (63, .iload 5, 65, 5, 0, 0, 0), (65, .invokevirtual 207, 68, 2, 0, 0, 0), (68, .ifCond .ne 10, 71, 78, 0, 0, 0), (71, .aload_n 0, 72, 0, 0, 0, 0), (72, .bipush (-4), 74, 0, 0, -4, 0), (74, .invokevirtual 112, 77, 1, 0, 0, 0), (77, .ireturn, 78, 0, 0, 0, 0), (78, .iinc 6 1, 81, 6, 0, 1, 0), (81, .goto (-27), 54, 0, 0, 0, 0), (84, .lconst 0, 85, 0, 0, 0, 0), (85, .lstore 6, 87, 6, 0, 0, 0), (87, .iconst 0, 88, 0, 0, 0, 0), (88, .istore 8, 90, 8, 0, 0, 0), (90, .iload 8, 92, 8, 0, 0, 0), (92, .aload_n 0, 93, 0, 0, 0, 0), (93, .getfield 193, 96, 11, 29, 0, 0), (96, .if_icmp .ge 48, 99, 144, 0, 0, 0), (99, .lload 6, 101, 6, 0, 0, 0), (101, .aload_n 0, 102, 0, 0, 0, 0), (102, .getfield 68, 105, 11, 27, 0, 0), (105, .iload 8, 107, 8, 0, 0, 0), (107, .iaload, 108, 0, 0, 0, 0), (108, .aload_n 0, 109, 0, 0, 0, 0), (109, .getfield 28, 112, 11, 8, 0, 0), (112, .iload_n 1, 113, 1, 0, 0, 0), (113, .iaload, 114, 0, 0, 0, 0), (114, .iand, 115, 0, 0, 0, 0), (115, .ifCond .eq 19, 118, 134, 0, 0, 0), (118, .aload_n 0, 119, 0, 0, 0, 0), (119, .getfield 74, 122, 11, 30, 0, 0), (122, .sipush 400, 125, 0, 0, 400, 0), (125, .iload_n 3, 126, 3, 0, 0, 0), (126, .imul, 127, 0, 0, 0, 0), (127, .iload 8, 129, 8, 0, 0, 0), (129, .iadd, 130, 0, 0, 0, 0), (130, .laload, 131, 0, 0, 0, 0), (131, .goto 4, 135, 0, 0, 0, 0), (134, .lconst 0, 135, 0, 0, 0, 0), (135, .ladd, 136, 0, 0, 0, 0), (136, .lstore 6, 138, 6, 0, 0, 0), (138, .iinc 8 1, 141, 8, 0, 1, 0), (141, .goto (-51), 90, 0, 0, 0, 0), (144, .lload 6, 146, 6, 0, 0, 0), (146, .ldc2_w 199, 149, 0, 0, 0, 1000000000), (149, .lcmp, 150, 0, 0, 0, 0), (150, .ifCond .le 12, 153, 162, 0, 0, 0), (153, .aload_n 0, 154, 0, 0, 0, 0), (154, .bipush (-4), 156, 0, 0, -4, 0), (156, .invokevirtual 112, 159, 1, 0, 0, 0), (159, .goto 6, 165, 0, 0, 0, 0), (162, .lload 6, 164, 6, 0, 0, 0), (164, .l2i, 165, 0, 0, 0, 0), (165, .ireturn, 166, 0, 0, 0, 0)]
abbrev mX11_ways : MD := (yX11_ways, cX11_ways, 9, (some .int), { frames := 3, cells := 0, slots := 0, locals := 82 }, tbX11_ways)
def tbX11_words : List (Nat × En) := [(0, .iload_n 1, 1, 1, 0, 0, 0), (1, .invokestatic 178, 4, 1, 0, 0, 0), (4, .ifCond .eq 13, 7, 17, 0, 0, 0), (7, .iload_n 2, 8, 2, 0, 0, 0), (8, .iconst 0, 9, 0, 0, 0, 0), (9, .bipush 9, 11, 0, 0, 9, 0), (11, .invokestatic 84, 14, 3, 0, 0, 0), (14, .ifCond .ne 10, 17, 24, 0, 0, 0), (17, .aload_n 0, 18, 0, 0, 0, 0), (18, .bipush (-2), 20, 0, 0, -2, 0), (20, .invokevirtual 112, 23, 1, 0, 0, 0), (23, .ireturn, 24, 0, 0, 0, 0), (24, .aload_n 0, 25, 0, 0, 0, 0), (25, .getfield 19, 28, 11, 5, 0, 0), (28, .iload_n 1, 29, 1, 0, 0, 0), (29, .iaload, 30, 0, 0, 0, 0), (30, .ifCond .ge 12, 33, 42, 0, 0, 0), (33, .aload_n 0, 34, 0, 0, 0, 0), (34, .bipush (-3), 36, 0, 0, -3, 0), (36, .invokevirtual 112, 39, 1, 0, 0, 0), (39, .goto 12, 51, 0, 0, 0, 0), (42, .aload_n 0, 43, 0, 0, 0, 0), (43, .iload_n 1, 44, 1, 0, 0, 0), (44, .iconst 0, 45, 0, 0, 0, 0), (45, .iconst 0, 46, 0, 0, 0, 0), (46, .iload_n 2, 47, 2, 0, 0, 0), (47, .iconst 1, 48, 0, 0, 1, 0), (48, .invokevirtual 211, 51, 5, 0, 0, 0), (51, .ireturn, 52, 0, 0, 0, 0)]
abbrev mX11_words : MD := (yX11_words, cX11_words, 3, (some .int), { frames := 4, cells := 0, slots := 0, locals := 110 }, tbX11_words)
def tbX11_beyond : List (Nat × En) := [(0, .iload_n 1, 1, 1, 0, 0, 0), (1, .invokestatic 178, 4, 1, 0, 0, 0), (4, .ifCond .eq 10, 7, 14, 0, 0, 0), (7, .iload_n 2, 8, 2, 0, 0, 0), (8, .invokestatic 178, 11, 1, 0, 0, 0), (11, .ifCond .ne 10, 14, 21, 0, 0, 0), (14, .aload_n 0, 15, 0, 0, 0, 0), (15, .bipush (-2), 17, 0, 0, -2, 0), (17, .invokevirtual 112, 20, 1, 0, 0, 0), (20, .ireturn, 21, 0, 0, 0, 0), (21, .aload_n 0, 22, 0, 0, 0, 0), (22, .getfield 19, 25, 11, 5, 0, 0), (25, .iload_n 1, 26, 1, 0, 0, 0), (26, .iaload, 27, 0, 0, 0, 0), (27, .ifCond .lt 12, 30, 39, 0, 0, 0), (30, .aload_n 0, 31, 0, 0, 0, 0), (31, .getfield 19, 34, 11, 5, 0, 0), (34, .iload_n 2, 35, 2, 0, 0, 0), (35, .iaload, 36, 0, 0, 0, 0), (36, .ifCond .ge 10, 39, 46, 0, 0, 0), (39, .aload_n 0, 40, 0, 0, 0, 0), (40, .bipush (-3), 42, 0, 0, -3, 0), (42, .invokevirtual 112, 45, 1, 0, 0, 0), (45, .ireturn, 46, 0, 0, 0, 0), (46, .aload_n 0, 47, 0, 0, 0, 0), (47, .getfield 68, 50, 11, 27, 0, 0), (50, .iconst 0, 51, 0, 0, 0, 0), (51, .ldc 184, 53, 0, 0, 16777216, 0), (53, .iastore, 54, 0, 0, 0, 0), (54, .aload_n 0, 55, 0, 0, 0, 0), (55, .getfield 71, 58, 11, 28, 0, 0), (58, .iconst 0, 59, 0, 0, 0, 0), (59, .ldc 184, 61, 0, 0, 16777216, 0), (61, .iastore, 62, 0, 0, 0, 0), (62, .iconst 1, 63, 0, 0, 1, 0), (63, .istore_n 3, 64, 3, 0, 0, 0), (64, .iconst 0, 65, 0, 0, 0, 0), (65, .istore 4, 67, 4, 0, 0, 0), (67, .iconst 0, 68, 0, 0, 0, 0), (68, .istore 5, 70, 5, 0, 0, 0), (70, .iload 4, 72, 4, 0, 0, 0), (72, .iload_n 3, 73, 3, 0, 0, 0), (73, .if_icmp .ge 231, 76, 304, 0, 0, 0), (76, .iload 4, 78, 4, 0, 0, 0), (78, .istore 6, 80, 6, 0, 0, 0), (80, .iload 6, 82, 6, 0, 0, 0), (82, .iload_n 3, 83, 3, 0, 0, 0), (83, .if_icmp .ge 46, 86, 129, 0, 0, 0), (86, .aload_n 0, 87, 0, 0, 0, 0), (87, .getfield 68, 90, 11, 27, 0, 0), (90, .iload 6, 92, 6, 0, 0, 0), (92, .iaload, 93, 0, 0, 0, 0), (93, .aload_n 0, 94, 0, 0, 0, 0), (94, .getfield 28, 97, 11, 8, 0, 0), (97, .iload_n 1, 98, 1, 0, 0, 0), (98, .iaload, 99, 0, 0, 0, 0), (99, .iand, 100, 0, 0, 0, 0), (100, .ifCond .eq 23, 103, 123, 0, 0, 0), (103, .aload_n 0, 104, 0, 0, 0, 0), (104, .getfield 71, 107, 11, 28, 0, 0), (107, .iload 6, 109, 6, 0, 0, 0), (109, .iaload, 110, 0, 0, 0, 0), (110, .aload_n 0, 111, 0, 0, 0, 0), (111, .getfield 28, 114, 11, 8, 0, 0), (114, .iload_n 2, 115, 2, 0, 0, 0), (115, .iaload, 116, 0, 0, 0, 0), (116, .iand, 117, 0, 0, 0, 0), (117, .ifCond .ne 6, 120, 123, 0, 0, 0), (120, .iload 5, 122, 5, 0, 0, 0), (122, .ireturn, 123, 0, 0, 0, 0), (123, .iinc 6 1, 126, 6, 0, 1, 0), (126, .goto (-46), 80, 0, 0, 0, 0), (129, .iload_n 3, 130, 3, 0, 0, 0), (130, .istore 6, 132, 6, 0, 0, 0), (132, .iload 4, 134, 4, 0, 0, 0), (134, .istore 7, 136, 7, 0, 0, 0), (136, .iload 7, 138, 7, 0, 0, 0), (138, .iload 6, 140, 6, 0, 0, 0), (140, .if_icmp .ge 154, 143, 294, 0, 0, 0), (143, .iconst 0, 144, 0, 0, 0, 0), (144, .istore 8, 146, 8, 0, 0, 0), (146, .iload 8, 148, 8, 0, 0, 0), (148, .bipush 8, 150, 0, 0, 8, 0), (150, .if_icmp .ge 138, 153, 288, 0, 0, 0), (153, .aload_n 0, 154, 0, 0, 0, 0), (154, .iload_n 1, 155, 1, 0, 0, 0), (155, .aload_n 0, 156, 0, 0, 0, 0), (156, .getfield 68, 159, 11, 27, 0, 0), (159, .iload 7, 161, 7, 0, 0, 0), (161, .iaload, 162, 0, 0, 0, 0), (162, .iload 8, 164, 8, 0, 0, 0), (164, .invokevirtual 185, 167, 3, 0, 0, 0), (167, .istore 9, 169, 9, 0, 0, 0), (169, .aload_n 0, 170, 0, 0, 0, 0), (170, .iload_n 2, 171, 2, 0, 0, 0), (171, .aload_n 0, 172, 0, 0, 0, 0), (172, .getfield 71, 175, 11, 28, 0, 0), (175, .iload 7, 177, 7, 0, 0, 0), (177, .iaload, 178, 0, 0, 0, 0), (178, .iload 8, 180, 8, 0, 0, 0), (180, .invokevirtual 185, 183, 3, 0, 0, 0), (183, .istore 10, 185, 10, 0, 0, 0), (185, .iconst 0, 186, 0, 0, 0, 0), (186, .istore 11, 188, 11, 0, 0, 0), (188, .iconst 0, 189, 0, 0, 0, 0), (189, .istore 12, 191, 12, 0, 0, 0), (191, .iload 12, 193, 12, 0, 0, 0), (193, .iload_n 3, 194, 3, 0, 0, 0), (194, .if_icmp .ge 45, 197, 239, 0, 0, 0), (197, .iload 11, 199, 11, 0, 0, 0), (199, .ifCond .ne 27, 202, 226, 0, 0, 0), (202, .aload_n 0, 203, 0, 0, 0, 0), (203, .getfield 68, 206, 11, 27, 0, 0), (206, .iload 12, 208, 12, 0, 0, 0), (208, .iaload, 209, 0, 0, 0, 0), (209, .iload 9, 211, 9, 0, 0, 0), (211, .if_icmp .ne 19, 214, 230, 0, 0, 0), (214, .aload_n 0, 215, 0, 0, 0, 0), (215, .getfield 71, 218, 11, 28, 0, 0), (218, .iload 12, 220, 12, 0, 0, 0), (220, .iaload, 221, 0, 0, 0, 0), (221, .iload 10, 223, 10, 0, 0, 0), (223, .if_icmp .ne 7, 226, 230, 0, 0, 0), (226, .iconst 1, 227, 0, 0, 1, 0), (227, .goto 4, 231, 0, 0, 0, 0), (230, .iconst 0, 231, 0, 0, 0, 0), (231, .istore 11, 233, 11, 0, 0, 0), (233, .iinc 12 1, 236, 12, 0, 1, 0), (236, .goto (-45), 191, 0, 0, 0, 0), (239, .iload 11, 241, 11, 0, 0, 0), (241, .ifCond .ne 17, 244, 258, 0, 0, 0), (244, .iload_n 3, 245, 3, 0, 0, 0), (245, .sipush 400, 248, 0, 0, 400, 0), (248, .if_icmp .ne 10, 251, 258, 0, 0, 0), (251, .aload_n 0, 252, 0, 0, 0, 0), (252, .bipush (-4), 254, 0, 0, -4, 0), (254, .invokevirtual 112, 257, 1, 0, 0, 0), (257, .ireturn, 258, 0, 0, 0, 0), (258, .iload 11, 260, 11, 0, 0, 0), (260, .ifCond .ne 22, 263, 282, 0, 0, 0), (263, .aload_n 0, 264, 0, 0, 0, 0), (264, .getfield 68, 267, 11, 27, 0, 0), (267, .iload_n 3, 268, 3, 0, 0, 0), (268, .iload 9, 270, 9, 0, 0, 0), (270, .iastore, 271, 0, 0, 0, 0), (271, .aload_n 0, 272, 0, 0, 0, 0), (272, .getfield 71, 275, 11, 28, 0, 0), (275, .iload_n 3, 276, 3, 0, 0, 0), (276, .iload 10, 278, 10, 0, 0, 0), (278, .iastore, 279, 0, 0, 0, 0), (279, .iinc 3 1, 282, 3, 0, 1, 0), (282, .iinc 8 1, 285, 8, 0, 1, 0), (285, .goto (-139), 146, 0, 0, 0, 0), (288, .iinc 7 1, 291, 7, 0, 1, 0), (291, .goto (-155), 136, 0, 0, 0, 0), (294, .iload 6, 296, 6, 0, 0, 0), (296, .istore 4, 298, 4, 0, 0, 0), (298, .iinc 5 1, 301, 5, 0, 1, 0), (301, .goto (-231), 70, 0, 0, 0, 0), (304, .iconst (-1), 305, 0, 0, -1, 0), (305, .ireturn, 306, 0, 0, 0, 0)]
abbrev mX11_beyond : MD := (yX11_beyond, cX11_beyond, 13, (some .int), { frames := 2, cells := 0, slots := 0, locals := 42 }, tbX11_beyond)
def tbX11_amiss : List (Nat × En) := [(0, .iload_n 1, 1, 1, 0, 0, 0), (1, .invokestatic 178, 4, 1, 0, 0, 0), (4, .ifCond .eq 17, 7, 21, 0, 0, 0), (7, .iload_n 2, 8, 2, 0, 0, 0), (8, .invokestatic 108, 11, 1, 0, 0, 0), (11, .ifCond .eq 10, 14, 21, 0, 0, 0), (14, .iload_n 3, 15, 3, 0, 0, 0), (15, .invokestatic 108, 18, 1, 0, 0, 0), (18, .ifCond .ne 8, 21, 26, 0, 0, 0), (21, .bipush (-2), 23, 0, 0, -2, 0), (23, .goto 18, 41, 0, 0, 0, 0), (26, .aload_n 0, 27, 0, 0, 0, 0), (27, .getfield 19, 30, 11, 5, 0, 0), (30, .iload_n 1, 31, 1, 0, 0, 0), (31, .iaload, 32, 0, 0, 0, 0), (32, .ifCond .ge 8, 35, 40, 0, 0, 0), (35, .bipush (-3), 37, 0, 0, -3, 0), (37, .goto 4, 41, 0, 0, 0, 0), (40, .iconst 0, 41, 0, 0, 0, 0), (41, .ireturn, 42, 0, 0, 0, 0)]
abbrev mX11_amiss : MD := (yX11_amiss, cX11_amiss, 4, (some .int), { frames := 2, cells := 0, slots := 0, locals := 42 }, tbX11_amiss)
def tbX11_answers : List (Nat × En) := [(0, .aload_n 0, 1, 0, 0, 0, 0), (1, .iload_n 1, 2, 1, 0, 0, 0), (2, .iload_n 2, 3, 2, 0, 0, 0), (3, .iload_n 3, 4, 3, 0, 0, 0), (4, .invokevirtual 221, 7, 3, 0, 0, 0), (7, .istore 4, 9, 4, 0, 0, 0), (9, .iload 4, 11, 4, 0, 0, 0), (11, .ifCond .eq 12, 14, 23, 0, 0, 0), (14, .aload_n 0, 15, 0, 0, 0, 0), (15, .iload 4, 17, 4, 0, 0, 0), (17, .invokevirtual 112, 20, 1, 0, 0, 0), (20, .goto 19, 39, 0, 0, 0, 0), (23, .aload_n 0, 24, 0, 0, 0, 0), (24, .iload_n 1, 25, 1, 0, 0, 0), (25, .iload_n 2, 26, 2, 0, 0, 0), (26, .iload_n 3, 27, 3, 0, 0, 0), (27, .invokevirtual 218, 30, 3, 0, 0, 0), (30, .iconst (-1), 31, 0, 0, -1, 0), (31, .if_icmp .ne 7, 34, 38, 0, 0, 0), (34, .iconst 0, 35, 0, 0, 0, 0), (35, .goto 4, 39, 0, 0, 0, 0), (38, .iconst 1, 39, 0, 0, 1, 0), (39, .ireturn, 40, 0, 0, 0, 0)]
abbrev mX11_answers : MD := (yX11_answers, cX11_answers, 5, (some .int), { frames := 3, cells := 0, slots := 0, locals := 73 }, tbX11_answers)
def tbX11_ends : List (Nat × En) := [(0, .aload_n 0, 1, 0, 0, 0, 0), (1, .iload_n 1, 2, 1, 0, 0, 0), (2, .iload_n 2, 3, 2, 0, 0, 0), (3, .iconst 0, 4, 0, 0, 0, 0), (4, .invokevirtual 221, 7, 3, 0, 0, 0), (7, .istore_n 3, 8, 3, 0, 0, 0), (8, .iload_n 3, 9, 3, 0, 0, 0), (9, .ifCond .eq 11, 12, 20, 0, 0, 0), (12, .aload_n 0, 13, 0, 0, 0, 0), (13, .iload_n 3, 14, 3, 0, 0, 0), (14, .invokevirtual 112, 17, 1, 0, 0, 0), (17, .goto 9, 26, 0, 0, 0, 0), (20, .aload_n 0, 21, 0, 0, 0, 0), (21, .iload_n 1, 22, 1, 0, 0, 0), (22, .iload_n 2, 23, 2, 0, 0, 0), (23, .invokevirtual 101, 26, 2, 0, 0, 0), (26, .ireturn, 27, 0, 0, 0, 0)]
abbrev mX11_ends : MD := (yX11_ends, cX11_ends, 4, (some .int), { frames := 4, cells := 0, slots := 0, locals := 97 }, tbX11_ends)
def tbX11_pairsOf : List (Nat × En) := [(0, .iconst 0, 1, 0, 0, 0, 0), (1, .istore_n 2, 2, 2, 0, 0, 0), (2, .iconst 0, 3, 0, 0, 0, 0), (3, .istore_n 3, 4, 3, 0, 0, 0), (4, .iload_n 3, 5, 3, 0, 0, 0), (5, .bipush 10, 7, 0, 0, 10, 0), (7, .if_icmp .ge 21, 10, 28, 0, 0, 0), (10, .iload_n 2, 11, 2, 0, 0, 0), (11, .aload_n 0, 12, 0, 0, 0, 0), (12, .iload_n 1, 13, 1, 0, 0, 0), (13, .iload_n 3, 14, 3, 0, 0, 0), (14, .invokevirtual 101, 17, 2, 0, 0, 0), (17, .invokestatic 105, 20, 1, 0, 0, 0), (20, .iadd, 21, 0, 0, 0, 0), (21, .istore_n 2, 22, 2, 0, 0, 0), (22, .iinc 3 1, 25, 3, 0, 1, 0), (25, .goto (-21), 4, 0, 0, 0, 0), (28, .iload_n 2, 29, 2, 0, 0, 0), (29, .ireturn, 30, 0, 0, 0, 0)]
abbrev mX11_pairsOf : MD := (yX11_pairsOf, cX11_pairsOf, 4, (some .int), { frames := 4, cells := 0, slots := 0, locals := 97 }, tbX11_pairsOf)
def tbX11_pairs : List (Nat × En) := [(0, .aload_n 0, 1, 0, 0, 0, 0), (1, .iload_n 1, 2, 1, 0, 0, 0), (2, .iconst 0, 3, 0, 0, 0, 0), (3, .iconst 0, 4, 0, 0, 0, 0), (4, .invokevirtual 221, 7, 3, 0, 0, 0), (7, .istore_n 2, 8, 2, 0, 0, 0), (8, .iload_n 2, 9, 2, 0, 0, 0), (9, .ifCond .eq 11, 12, 20, 0, 0, 0), (12, .aload_n 0, 13, 0, 0, 0, 0), (13, .iload_n 2, 14, 2, 0, 0, 0), (14, .invokevirtual 112, 17, 1, 0, 0, 0), (17, .goto 8, 25, 0, 0, 0, 0), (20, .aload_n 0, 21, 0, 0, 0, 0), (21, .iload_n 1, 22, 1, 0, 0, 0), (22, .invokevirtual 224, 25, 1, 0, 0, 0), (25, .ireturn, 26, 0, 0, 0, 0)]
abbrev mX11_pairs : MD := (yX11_pairs, cX11_pairs, 3, (some .int), { frames := 5, cells := 0, slots := 0, locals := 120 }, tbX11_pairs)
def tbX11_far : List (Nat × En) := [(0, .aload_n 0, 1, 0, 0, 0, 0), (1, .iload_n 1, 2, 1, 0, 0, 0), (2, .iload_n 2, 3, 2, 0, 0, 0), (3, .iload_n 3, 4, 3, 0, 0, 0), (4, .invokevirtual 221, 7, 3, 0, 0, 0), (7, .istore 4, 9, 4, 0, 0, 0), (9, .iload 4, 11, 4, 0, 0, 0), (11, .ifCond .eq 12, 14, 23, 0, 0, 0), (14, .aload_n 0, 15, 0, 0, 0, 0), (15, .iload 4, 17, 4, 0, 0, 0), (17, .invokevirtual 112, 20, 1, 0, 0, 0), (20, .goto 10, 30, 0, 0, 0, 0), (23, .aload_n 0, 24, 0, 0, 0, 0), (24, .iload_n 1, 25, 1, 0, 0, 0), (25, .iload_n 2, 26, 2, 0, 0, 0), (26, .iload_n 3, 27, 3, 0, 0, 0), (27, .invokevirtual 218, 30, 3, 0, 0, 0), (30, .ireturn, 31, 0, 0, 0, 0)]
abbrev mX11_far : MD := (yX11_far, cX11_far, 5, (some .int), { frames := 3, cells := 0, slots := 0, locals := 73 }, tbX11_far)
def tbX11_count : List (Nat × En) := [(0, .iload 4, 2, 4, 0, 0, 0), (2, .iconst 0, 3, 0, 0, 0, 0), (3, .bipush 12, 5, 0, 0, 12, 0), (5, .invokestatic 84, 8, 3, 0, 0, 0), (8, .ifCond .eq 13, 11, 21, 0, 0, 0), (11, .aload_n 0, 12, 0, 0, 0, 0), (12, .iload_n 1, 13, 1, 0, 0, 0), (13, .iload_n 2, 14, 2, 0, 0, 0), (14, .iload_n 3, 15, 3, 0, 0, 0), (15, .invokevirtual 221, 18, 3, 0, 0, 0), (18, .goto 5, 23, 0, 0, 0, 0), (21, .bipush (-2), 23, 0, 0, -2, 0), (23, .istore 5, 25, 5, 0, 0, 0), (25, .iload 5, 27, 5, 0, 0, 0), (27, .ifCond .eq 10, 30, 37, 0, 0, 0), (30, .aload_n 0, 31, 0, 0, 0, 0), (31, .iload 5, 33, 5, 0, 0, 0), (33, .invokevirtual 112, 36, 1, 0, 0, 0), (36, .ireturn, 37, 0, 0, 0, 0), (37, .aload_n 0, 38, 0, 0, 0, 0), (38, .iload_n 1, 39, 1, 0, 0, 0), (39, .iload_n 2, 40, 2, 0, 0, 0), (40, .iload_n 3, 41, 3, 0, 0, 0), (41, .iload 4, 43, 4, 0, 0, 0), (43, .iconst 0, 44, 0, 0, 0, 0), (44, .invokevirtual 211, 47, 5, 0, 0, 0), (47, .ireturn, 48, 0, 0, 0, 0)]
abbrev mX11_count : MD := (yX11_count, cX11_count, 6, (some .int), { frames := 4, cells := 0, slots := 0, locals := 110 }, tbX11_count)
def tbX11_route : List (Nat × En) := [(0, .iload 4, 2, 4, 0, 0, 0), (2, .ifCond .lt 13, 5, 15, 0, 0, 0), (5, .iload 5, 7, 5, 0, 0, 0), (7, .iconst 0, 8, 0, 0, 0, 0), (8, .iconst 2, 9, 0, 0, 2, 0), (9, .invokestatic 84, 12, 3, 0, 0, 0), (12, .ifCond .ne 8, 15, 20, 0, 0, 0), (15, .bipush (-2), 17, 0, 0, -2, 0), (17, .goto 10, 27, 0, 0, 0, 0), (20, .aload_n 0, 21, 0, 0, 0, 0), (21, .iload_n 1, 22, 1, 0, 0, 0), (22, .iload_n 2, 23, 2, 0, 0, 0), (23, .iload_n 3, 24, 3, 0, 0, 0), (24, .invokevirtual 221, 27, 3, 0, 0, 0), (27, .istore 6, 29, 6, 0, 0, 0), (29, .iload 6, 31, 6, 0, 0, 0), (31, .ifCond .eq 10, 34, 41, 0, 0, 0), (34, .aload_n 0, 35, 0, 0, 0, 0), (35, .iload 6, 37, 6, 0, 0, 0), (37, .invokevirtual 112, 40, 1, 0, 0, 0), (40, .ireturn, 41, 0, 0, 0, 0), (41, .aload_n 0, 42, 0, 0, 0, 0), (42, .iload_n 1, 43, 1, 0, 0, 0), (43, .iload_n 2, 44, 2, 0, 0, 0), (44, .iload_n 3, 45, 3, 0, 0, 0), (45, .invokevirtual 218, 48, 3, 0, 0, 0), (48, .istore 7, 50, 7, 0, 0, 0), (50, .iload 7, 52, 7, 0, 0, 0), (52, .iconst (-1), 53, 0, 0, -1, 0), (53, .if_icmp .eq 10, 56, 63, 0, 0, 0), (56, .iload 4, 58, 4, 0, 0, 0), (58, .iload 7, 60, 7, 0, 0, 0), (60, .if_icmp .lt 5, 63, 65, 0, 0, 0), (63, .iconst (-1), 64, 0, 0, -1, 0), (64, .ireturn, 65, 0, 0, 0, 0), (65, .iconst 0, 66, 0, 0, 0, 0), (66, .istore 8, 68, 8, 0, 0, 0), (68, .iload 8, 70, 8, 0, 0, 0), (70, .bipush 10, 72, 0, 0, 10, 0), (72, .if_icmp .ge 32, 75, 104, 0, 0, 0), (75, .aload_n 0, 76, 0, 0, 0, 0), (76, .getfield 65, 79, 11, 26, 0, 0), (79, .iload 8, 81, 8, 0, 0, 0), (81, .iload 8, 83, 8, 0, 0, 0), (83, .iload_n 3, 84, 3, 0, 0, 0), (84, .if_icmp .ne 12, 87, 96, 0, 0, 0), (87, .aload_n 0, 88, 0, 0, 0, 0), (88, .getfield 28, 91, 11, 8, 0, 0), (91, .iload_n 1, 92, 1, 0, 0, 0), (92, .iaload, 93, 0, 0, 0, 0), (93, .goto 4, 97, 0, 0, 0, 0), (96, .iconst 0, 97, 0, 0, 0, 0), (97, .iastore, 98, 0, 0, 0, 0), (98, .iinc 8 1, 101, 8, 0, 1, 0), (101, .goto (-33), 68, 0, 0, 0, 0), (104, .iconst 1, 105, 0, 0, 1, 0), (105, .istore 8, 107, 8, 0, 0, 0), (107, .iload 8, 109, 8, 0, 0, 0), (109, .iload 7, 111, 7, 0, 0, 0), (111, .if_icmp .gt 159, 114, 270, 0, 0, 0), (114, .iconst 0, 115, 0, 0, 0, 0), (115, .istore 9, 117, 9, 0, 0, 0), (117, .iload 9, 119, 9, 0, 0, 0), (119, .bipush 10, 121, 0, 0, 10, 0), (121, .if_icmp .ge 23, 124, 144, 0, 0, 0), (124, .aload_n 0, 125, 0, 0, 0, 0), (125, .getfield 65, 128, 11, 26, 0, 0), (128, .bipush 10, 130, 0, 0, 10, 0), (130, .iload 8, 132, 8, 0, 0, 0), (132, .imul, 133, 0, 0, 0, 0), (133, .iload 9, 135, 9, 0, 0, 0), (135, .iadd, 136, 0, 0, 0, 0), (136, .iconst 0, 137, 0, 0, 0, 0), (137, .iastore, 138, 0, 0, 0, 0), (138, .iinc 9 1, 141, 9, 0, 1, 0), (141, .goto (-24), 117, 0, 0, 0, 0), (144, .iconst 0, 145, 0, 0, 0, 0), (145, .istore 9, 147, 9, 0, 0, 0), (147, .iload 9, 149, 9, 0, 0, 0), (149, .aload_n 0, 150, 0, 0, 0, 0), (150, .getfield 88, 153, 11, 1, 0, 0), (153, .if_icmp .ge 111, 156, 264, 0, 0, 0), (156, .aload_n 0, 157, 0, 0, 0, 0), (157, .getfield 65, 160, 11, 26, 0, 0), (160, .bipush 10, 162, 0, 0, 10, 0), (162, .iload 8, 164, 8, 0, 0, 0), (164, .imul, 165, 0, 0, 0, 0), (165, .aload_n 0, 166, 0, 0, 0, 0), (166, .iload 9, 168, 9, 0, 0, 0), (168, .invokevirtual 91, 171, 1, 0, 0, 0), (171, .iadd, 172, 0, 0, 0, 0), (172, .dup2, 173, 0, 0, 0, 0), (173, .iaload, 174, 0, 0, 0, 0), (174, .aload_n 0, 175, 0, 0, 0, 0), (175, .iload_n 1, 176, 1, 0, 0, 0), (176, .aload_n 0, 177, 0, 0, 0, 0), (177, .getfield 65, 180, 11, 26, 0, 0), (180, .bipush 10, 182, 0, 0, 10, 0), (182, .iload 8, 184, 8, 0, 0, 0), (184, .iconst 1, 185, 0, 0, 1, 0), (185, .isub, 186, 0, 0, 0, 0), (186, .imul, 187, 0, 0, 0, 0), (187, .aload_n 0, 188, 0, 0, 0, 0), (188, .iload 9, 190, 9, 0, 0, 0), (190, .invokevirtual 98, 193, 1, 0, 0, 0), (193, .iadd, 194, 0, 0, 0, 0), (194, .iaload, 195, 0, 0, 0, 0), (195, .aload_n 0, 196, 0, 0, 0, 0), (196, .iload 9, 198, 9, 0, 0, 0), (198, .invokevirtual 95, 201, 1, 0, 0, 0), (201, .invokevirtual 227, 204, 3, 0, 0, 0), (204, .ior, 205, 0, 0, 0, 0), (205, .iastore, 206, 0, 0, 0, 0), (206, .aload_n 0, 207, 0, 0, 0, 0), (207, .getfield 65, 210, 11, 26, 0, 0), (210, .bipush 10, 212, 0, 0, 10, 0), (212, .iload 8, 214, 8, 0, 0, 0), (214, .imul, 215, 0, 0, 0, 0), (215, .aload_n 0, 216, 0, 0, 0, 0), (216, .iload 9, 218, 9, 0, 0, 0), (218, .invokevirtual 98, 221, 1, 0, 0, 0), (221, .iadd, 222, 0, 0, 0, 0), (222, .dup2, 223, 0, 0, 0, 0), (223, .iaload, 224, 0, 0, 0, 0), (224, .aload_n 0, 225, 0, 0, 0, 0), (225, .iload_n 1, 226, 1, 0, 0, 0), (226, .aload_n 0, 227, 0, 0, 0, 0), (227, .getfield 65, 230, 11, 26, 0, 0), (230, .bipush 10, 232, 0, 0, 10, 0), (232, .iload 8, 234, 8, 0, 0, 0), (234, .iconst 1, 235, 0, 0, 1, 0), (235, .isub, 236, 0, 0, 0, 0), (236, .imul, 237, 0, 0, 0, 0), (237, .aload_n 0, 238, 0, 0, 0, 0), (238, .iload 9, 240, 9, 0, 0, 0), (240, .invokevirtual 91, 243, 1, 0, 0, 0), (243, .iadd, 244, 0, 0, 0, 0), (244, .iaload, 245, 0, 0, 0, 0), (245, .aload_n 0, 246, 0, 0, 0, 0), (246, .iload 9, 248, 9, 0, 0, 0), (248, .invokevirtual 95, 251, 1, 0, 0, 0), (251, .iconst 4, 252, 0, 0, 4, 0), (252, .iadd, 253, 0, 0, 0, 0), (253, .invokevirtual 227, 256, 3, 0, 0, 0), (256, .ior, 257, 0, 0, 0, 0), (257, .iastore, 258, 0, 0, 0, 0), (258, .iinc 9 1, 261, 9, 0, 1, 0), (261, .goto (-114), 147, 0, 0, 0, 0), (264, .iinc 8 1, 267, 8, 0, 1, 0), (267, .goto (-160), 107, 0, 0, 0, 0), (270, .ldc 184, 272, 0, 0, 16777216, 0), (272, .istore 8, 274, 8, 0, 0, 0), (274, .iload_n 2, 275, 2, 0, 0, 0), (275, .istore 9, 277, 9, 0, 0, 0), (277, .iconst 0, 278, 0, 0, 0, 0), (278, .istore 10, 280, 10, 0, 0, 0), (280, .iconst 0, 281, 0, 0, 0, 0), (281, .istore 11, 283, 11, 0, 0, 0), (283, .iload 11, 285, 11, 0, 0, 0), (285, .iload 4, 287, 4, 0, 0, 0), (287, .if_icmp .gt 193, 290, 480, 0, 0, 0), (290, .iconst 0, 291, 0, 0, 0, 0), (291, .istore 12, 293, 12, 0, 0, 0), (293, .iconst 0, 294, 0, 0, 0, 0), (294, .istore 13, 296, 13, 0, 0, 0), (296, .iload 13, 298, 13, 0, 0, 0), (298, .iconst 2, 299, 0, 0, 2, 0), (299, .aload_n 0, 300, 0, 0, 0, 0), (300, .getfield 88, 303, 11, 1, 0, 0), (303, .imul, 304, 0, 0, 0, 0), (304, .if_icmp .ge 170, 307, 474, 0, 0, 0), (307, .iload 12, 309, 12, 0, 0, 0), (309, .ifCond .ne 165, 312, 474, 0, 0, 0), (312, .iload 13, 314, 13, 0, 0, 0), (314, .aload_n 0, 315, 0, 0, 0, 0), (315, .getfield 88, 318, 11, 1, 0, 0), (318, .if_icmp .ge 7, 321, 325, 0, 0, 0), (321, .iconst 1, 322, 0, 0, 1, 0), (322, .goto 4, 326, 0, 0, 0, 0), (325, .iconst 0, 326, 0, 0, 0, 0), (326, .istore 14, 328, 14, 0, 0, 0), (328, .iload 14, 330, 14, 0, 0, 0), (330, .ifCond .eq 8, 333, 338, 0, 0, 0), (333, .iload 13, 335, 13, 0, 0, 0), (335, .goto 10, 345, 0, 0, 0, 0), (338, .iload 13, 340, 13, 0, 0, 0), (340, .aload_n 0, 341, 0, 0, 0, 0), (341, .getfield 88, 344, 11, 1, 0, 0), (344, .isub, 345, 0, 0, 0, 0), (345, .istore 15, 347, 15, 0, 0, 0), (347, .iload 14, 349, 14, 0, 0, 0), (349, .ifCond .eq 12, 352, 361, 0, 0, 0), (352, .aload_n 0, 353, 0, 0, 0, 0), (353, .iload 15, 355, 15, 0, 0, 0), (355, .invokevirtual 98, 358, 1, 0, 0, 0), (358, .goto 9, 367, 0, 0, 0, 0), (361, .aload_n 0, 362, 0, 0, 0, 0), (362, .iload 15, 364, 15, 0, 0, 0), (364, .invokevirtual 91, 367, 1, 0, 0, 0), (367, .istore 16, 369, 16, 0, 0, 0), (369, .aload_n 0, 370, 0, 0, 0, 0), (370, .iload_n 1, 371, 1, 0, 0, 0), (371, .iload 8, 373, 8, 0, 0, 0), (373, .aload_n 0, 374, 0, 0, 0, 0), (374, .iload 15, 376, 15, 0, 0, 0), (376, .invokevirtual 95, 379, 1, 0, 0, 0), (379, .iload 14, 381, 14, 0, 0, 0), (381, .ifCond .eq 7, 384, 388, 0, 0, 0), (384, .iconst 0, 385, 0, 0, 0, 0), (385, .goto 4, 389, 0, 0, 0, 0), (388, .iconst 4, 389, 0, 0, 4, 0), (389, .iadd, 390, 0, 0, 0, 0), (390, .invokevirtual 185, 393, 3, 0, 0, 0), (393, .istore 17, 395, 17, 0, 0, 0), (395, .iload 14, 397, 14, 0, 0, 0), (397, .ifCond .eq 12, 400, 409, 0, 0, 0), (400, .aload_n 0, 401, 0, 0, 0, 0), (401, .iload 15, 403, 15, 0, 0, 0), (403, .invokevirtual 91, 406, 1, 0, 0, 0), (406, .goto 9, 415, 0, 0, 0, 0), (409, .aload_n 0, 410, 0, 0, 0, 0), (410, .iload 15, 412, 15, 0, 0, 0), (412, .invokevirtual 98, 415, 1, 0, 0, 0), (415, .iload 9, 417, 9, 0, 0, 0), (417, .if_icmp .ne 31, 420, 448, 0, 0, 0), (420, .iload 17, 422, 17, 0, 0, 0), (422, .aload_n 0, 423, 0, 0, 0, 0), (423, .getfield 65, 426, 11, 26, 0, 0), (426, .bipush 10, 428, 0, 0, 10, 0), (428, .iload 7, 430, 7, 0, 0, 0), (430, .iload 11, 432, 11, 0, 0, 0), (432, .isub, 433, 0, 0, 0, 0), (433, .iconst 1, 434, 0, 0, 1, 0), (434, .isub, 435, 0, 0, 0, 0), (435, .imul, 436, 0, 0, 0, 0), (436, .iload 16, 438, 16, 0, 0, 0), (438, .iadd, 439, 0, 0, 0, 0), (439, .iaload, 440, 0, 0, 0, 0), (440, .iand, 441, 0, 0, 0, 0), (441, .ifCond .eq 7, 444, 448, 0, 0, 0), (444, .iconst 1, 445, 0, 0, 1, 0), (445, .goto 4, 449, 0, 0, 0, 0), (448, .iconst 0, 449, 0, 0, 0, 0), (449, .istore 12, 451, 12, 0, 0, 0), (451, .iload 12, 453, 12, 0, 0, 0), (453, .ifCond .eq 15, 456, 468, 0, 0, 0), (456, .iload 13, 458, 13, 0, 0, 0), (458, .istore 10, 460, 10, 0, 0, 0), (460, .iload 16, 462, 16, 0, 0, 0), (462, .istore 9, 464, 9, 0, 0, 0), (464, .iload 17, 466, 17, 0, 0, 0), (466, .istore 8, 468, 8, 0, 0, 0), (468, .iinc 13 1, 471, 13, 0, 1, 0), (471, .goto (-175), 296, 0, 0, 0, 0), (474, .iinc 11 1, 477, 11, 0, 1, 0), (477, .goto (-194), 283, 0, 0, 0, 0), (480, .iload 5, 482, 5, 0, 0, 0), (482, .ifCond .ne 13, 485, 495, 0, 0, 0), (485, .iload 10, 487, 10, 0, 0, 0), (487, .aload_n 0, 488, 0, 0, 0, 0), (488, .getfield 88, 491, 11, 1, 0, 0), (491, .irem, 492, 0, 0, 0, 0), (492, .goto 21, 513, 0, 0, 0, 0), (495, .iload 5, 497, 5, 0, 0, 0), (497, .iconst 1, 498, 0, 0, 1, 0), (498, .if_icmp .ne 13, 501, 511, 0, 0, 0), (501, .iload 10, 503, 10, 0, 0, 0), (503, .aload_n 0, 504, 0, 0, 0, 0), (504, .getfield 88, 507, 11, 1, 0, 0), (507, .idiv, 508, 0, 0, 0, 0), (508, .goto 5, 513, 0, 0, 0, 0), (511, .iload 9, 513, 9, 0, 0, 0), (513, .ireturn, 514, 0, 0, 0, 0)]
abbrev mX11_route : MD := (yX11_route, cX11_route, 18, (some .int), { frames := 3, cells := 0, slots := 0, locals := 73 }, tbX11_route)
def tbX11_bridge : List (Nat × En) := [(0, .aload_n 0, 1, 0, 0, 0, 0), (1, .iload_n 1, 2, 1, 0, 0, 0), (2, .iload_n 2, 3, 2, 0, 0, 0), (3, .iload_n 3, 4, 3, 0, 0, 0), (4, .invokevirtual 221, 7, 3, 0, 0, 0), (7, .istore 4, 9, 4, 0, 0, 0), (9, .iload 4, 11, 4, 0, 0, 0), (11, .ifCond .eq 10, 14, 21, 0, 0, 0), (14, .aload_n 0, 15, 0, 0, 0, 0), (15, .iload 4, 17, 4, 0, 0, 0), (17, .invokevirtual 112, 20, 1, 0, 0, 0), (20, .ireturn, 21, 0, 0, 0, 0), (21, .iconst (-1), 22, 0, 0, -1, 0), (22, .istore 5, 24, 5, 0, 0, 0), (24, .aload_n 0, 25, 0, 0, 0, 0), (25, .iload_n 1, 26, 1, 0, 0, 0), (26, .iload_n 2, 27, 2, 0, 0, 0), (27, .iload_n 3, 28, 3, 0, 0, 0), (28, .invokevirtual 218, 31, 3, 0, 0, 0), (31, .iconst (-1), 32, 0, 0, -1, 0), (32, .if_icmp .eq 48, 35, 80, 0, 0, 0), (35, .aload_n 0, 36, 0, 0, 0, 0), (36, .getfield 88, 39, 11, 1, 0, 0), (39, .iconst 1, 40, 0, 0, 1, 0), (40, .isub, 41, 0, 0, 0, 0), (41, .istore 6, 43, 6, 0, 0, 0), (43, .iload 6, 45, 6, 0, 0, 0), (45, .ifCond .lt 35, 48, 80, 0, 0, 0), (48, .aload_n 0, 49, 0, 0, 0, 0), (49, .iload 6, 51, 6, 0, 0, 0), (51, .putfield 81, 54, 11, 32, 0, 0), (54, .aload_n 0, 55, 0, 0, 0, 0), (55, .iload_n 1, 56, 1, 0, 0, 0), (56, .iload_n 2, 57, 2, 0, 0, 0), (57, .iload_n 3, 58, 3, 0, 0, 0), (58, .invokevirtual 218, 61, 3, 0, 0, 0), (61, .iconst (-1), 62, 0, 0, -1, 0), (62, .if_icmp .ne 8, 65, 70, 0, 0, 0), (65, .iload 6, 67, 6, 0, 0, 0), (67, .goto 5, 72, 0, 0, 0, 0), (70, .iload 5, 72, 5, 0, 0, 0), (72, .istore 5, 74, 5, 0, 0, 0), (74, .iinc 6 (-1), 77, 6, 0, -1, 0), (77, .goto (-34), 43, 0, 0, 0, 0), (80, .aload_n 0, 81, 0, 0, 0, 0), (81, .iconst (-1), 82, 0, 0, -1, 0), (82, .putfield 81, 85, 11, 32, 0, 0), (85, .iload 5, 87, 5, 0, 0, 0), (87, .ireturn, 88, 0, 0, 0, 0)]
abbrev mX11_bridge : MD := (yX11_bridge, cX11_bridge, 7, (some .int), { frames := 3, cells := 0, slots := 0, locals := 73 }, tbX11_bridge)
def tbX11_stand : List (Nat × En) := [(0, .iload_n 1, 1, 1, 0, 0, 0), (1, .iconst (-1), 2, 0, 0, -1, 0), (2, .iconst 3, 3, 0, 0, 3, 0), (3, .invokestatic 84, 6, 3, 0, 0, 0), (6, .ifCond .ne 10, 9, 16, 0, 0, 0), (9, .aload_n 0, 10, 0, 0, 0, 0), (10, .bipush (-2), 12, 0, 0, -2, 0), (12, .invokevirtual 112, 15, 1, 0, 0, 0), (15, .ireturn, 16, 0, 0, 0, 0), (16, .iload_n 1, 17, 1, 0, 0, 0), (17, .ifCond .lt 19, 20, 36, 0, 0, 0), (20, .aload_n 0, 21, 0, 0, 0, 0), (21, .getfield 19, 24, 11, 5, 0, 0), (24, .iload_n 1, 25, 1, 0, 0, 0), (25, .iaload, 26, 0, 0, 0, 0), (26, .ifCond .ge 10, 29, 36, 0, 0, 0), (29, .aload_n 0, 30, 0, 0, 0, 0), (30, .bipush (-3), 32, 0, 0, -3, 0), (32, .invokevirtual 112, 35, 1, 0, 0, 0), (35, .ireturn, 36, 0, 0, 0, 0), (36, .aload_n 0, 37, 0, 0, 0, 0), (37, .iload_n 1, 38, 1, 0, 0, 0), (38, .putfield 31, 41, 11, 9, 0, 0), (41, .aload_n 0, 42, 0, 0, 0, 0), (42, .iconst 0, 43, 0, 0, 0, 0), (43, .putfield 126, 46, 11, 11, 0, 0), (46, .aload_n 0, 47, 0, 0, 0, 0), (47, .iconst 0, 48, 0, 0, 0, 0), (48, .putfield 129, 51, 11, 12, 0, 0), (51, .iconst 0, 52, 0, 0, 0, 0), (52, .istore_n 2, 53, 2, 0, 0, 0), (53, .iconst 0, 54, 0, 0, 0, 0), (54, .istore_n 3, 55, 3, 0, 0, 0), (55, .iload_n 3, 56, 3, 0, 0, 0), (56, .bipush 10, 58, 0, 0, 10, 0), (58, .if_icmp .ge 41, 61, 99, 0, 0, 0), (61, .aload_n 0, 62, 0, 0, 0, 0), (62, .getfield 35, 65, 11, 10, 0, 0), (65, .iload_n 3, 66, 3, 0, 0, 0), (66, .iload_n 1, 67, 1, 0, 0, 0), (67, .ifCond .ge 7, 70, 74, 0, 0, 0), (70, .iconst 0, 71, 0, 0, 0, 0), (71, .goto 9, 80, 0, 0, 0, 0), (74, .aload_n 0, 75, 0, 0, 0, 0), (75, .iload_n 1, 76, 1, 0, 0, 0), (76, .iload_n 3, 77, 3, 0, 0, 0), (77, .invokevirtual 101, 80, 2, 0, 0, 0), (80, .iastore, 81, 0, 0, 0, 0), (81, .iload_n 2, 82, 2, 0, 0, 0), (82, .aload_n 0, 83, 0, 0, 0, 0), (83, .getfield 35, 86, 11, 10, 0, 0), (86, .iload_n 3, 87, 3, 0, 0, 0), (87, .iaload, 88, 0, 0, 0, 0), (88, .invokestatic 105, 91, 1, 0, 0, 0), (91, .iadd, 92, 0, 0, 0, 0), (92, .istore_n 2, 93, 2, 0, 0, 0), (93, .iinc 3 1, 96, 3, 0, 1, 0), (96, .goto (-41), 55, 0, 0, 0, 0), (99, .iload_n 2, 100, 2, 0, 0, 0), (100, .ireturn, 101, 0, 0, 0, 0)]
abbrev mX11_stand : MD := (yX11_stand, cX11_stand, 4, (some .int), { frames := 4, cells := 0, slots := 0, locals := 97 }, tbX11_stand)
def tbX11_standingOf : List (Nat × En) := [(0, .iconst 0, 1, 0, 0, 0, 0), (1, .istore_n 2, 2, 2, 0, 0, 0), (2, .iconst 0, 3, 0, 0, 0, 0), (3, .istore_n 3, 4, 3, 0, 0, 0), (4, .iload_n 3, 5, 3, 0, 0, 0), (5, .bipush 10, 7, 0, 0, 10, 0), (7, .if_icmp .ge 21, 10, 28, 0, 0, 0), (10, .iload_n 2, 11, 2, 0, 0, 0), (11, .aload_n 0, 12, 0, 0, 0, 0), (12, .getfield 35, 15, 11, 10, 0, 0), (15, .iload_n 3, 16, 3, 0, 0, 0), (16, .iaload, 17, 0, 0, 0, 0), (17, .invokestatic 105, 20, 1, 0, 0, 0), (20, .iadd, 21, 0, 0, 0, 0), (21, .istore_n 2, 22, 2, 0, 0, 0), (22, .iinc 3 1, 25, 3, 0, 1, 0), (25, .goto (-21), 4, 0, 0, 0, 0), (28, .iload_n 1, 29, 1, 0, 0, 0), (29, .ifCond .ne 10, 32, 39, 0, 0, 0), (32, .aload_n 0, 33, 0, 0, 0, 0), (33, .getfield 31, 36, 11, 9, 0, 0), (36, .goto 28, 64, 0, 0, 0, 0), (39, .iload_n 1, 40, 1, 0, 0, 0), (40, .iconst 1, 41, 0, 0, 1, 0), (41, .if_icmp .ne 7, 44, 48, 0, 0, 0), (44, .iload_n 2, 45, 2, 0, 0, 0), (45, .goto 19, 64, 0, 0, 0, 0), (48, .iload_n 1, 49, 1, 0, 0, 0), (49, .iconst 2, 50, 0, 0, 2, 0), (50, .if_icmp .ne 10, 53, 60, 0, 0, 0), (53, .aload_n 0, 54, 0, 0, 0, 0), (54, .getfield 126, 57, 11, 11, 0, 0), (57, .goto 7, 64, 0, 0, 0, 0), (60, .aload_n 0, 61, 0, 0, 0, 0), (61, .getfield 129, 64, 11, 12, 0, 0), (64, .ireturn, 65, 0, 0, 0, 0)]
abbrev mX11_standingOf : MD := (yX11_standingOf, cX11_standingOf, 4, (some .int), { frames := 1, cells := 0, slots := 0, locals := 22 }, tbX11_standingOf)
def tbX11_standing : List (Nat × En) := [(0, .iload_n 1, 1, 1, 0, 0, 0), (1, .iconst 0, 2, 0, 0, 0, 0), (2, .iconst 3, 3, 0, 0, 3, 0), (3, .invokestatic 84, 6, 3, 0, 0, 0), (6, .ifCond .eq 11, 9, 17, 0, 0, 0), (9, .aload_n 0, 10, 0, 0, 0, 0), (10, .iload_n 1, 11, 1, 0, 0, 0), (11, .invokevirtual 230, 14, 1, 0, 0, 0), (14, .goto 9, 23, 0, 0, 0, 0), (17, .aload_n 0, 18, 0, 0, 0, 0), (18, .bipush (-2), 20, 0, 0, -2, 0), (20, .invokevirtual 112, 23, 1, 0, 0, 0), (23, .ireturn, 24, 0, 0, 0, 0)]
abbrev mX11_standing : MD := (yX11_standing, cX11_standing, 2, (some .int), { frames := 2, cells := 0, slots := 0, locals := 45 }, tbX11_standing)
def tbX11_kept : List (Nat × En) := [(0, .iload_n 1, 1, 1, 0, 0, 0), (1, .invokestatic 108, 4, 1, 0, 0, 0), (4, .ifCond .eq 10, 7, 14, 0, 0, 0), (7, .iload_n 2, 8, 2, 0, 0, 0), (8, .invokestatic 108, 11, 1, 0, 0, 0), (11, .ifCond .ne 10, 14, 21, 0, 0, 0), (14, .aload_n 0, 15, 0, 0, 0, 0), (15, .bipush (-2), 17, 0, 0, -2, 0), (17, .invokevirtual 112, 20, 1, 0, 0, 0), (20, .ireturn, 21, 0, 0, 0, 0), (21, .aload_n 0, 22, 0, 0, 0, 0), (22, .getfield 31, 25, 11, 9, 0, 0), (25, .ifCond .ge 12, 28, 37, 0, 0, 0), (28, .aload_n 0, 29, 0, 0, 0, 0), (29, .bipush (-3), 31, 0, 0, -3, 0), (31, .invokevirtual 112, 34, 1, 0, 0, 0), (34, .goto 13, 47, 0, 0, 0, 0), (37, .aload_n 0, 38, 0, 0, 0, 0), (38, .getfield 35, 41, 11, 10, 0, 0), (41, .iload_n 1, 42, 1, 0, 0, 0), (42, .iaload, 43, 0, 0, 0, 0), (43, .iload_n 2, 44, 2, 0, 0, 0), (44, .ishr, 45, 0, 0, 0, 0), (45, .iconst 1, 46, 0, 0, 1, 0), (46, .iand, 47, 0, 0, 0, 0), (47, .ireturn, 48, 0, 0, 0, 0)]
abbrev mX11_kept : MD := (yX11_kept, cX11_kept, 3, (some .int), { frames := 2, cells := 0, slots := 0, locals := 42 }, tbX11_kept)
def tbX11_draw : List (Nat × En) := [(0, .iload_n 1, 1, 1, 0, 0, 0), (1, .iconst 0, 2, 0, 0, 0, 0), (2, .ldc 233, 4, 0, 0, 999999, 0), (4, .invokestatic 84, 7, 3, 0, 0, 0), (7, .ifCond .eq 13, 10, 20, 0, 0, 0), (10, .iload_n 2, 11, 2, 0, 0, 0), (11, .iconst 0, 12, 0, 0, 0, 0), (12, .bipush 30, 14, 0, 0, 30, 0), (14, .invokestatic 84, 17, 3, 0, 0, 0), (17, .ifCond .ne 10, 20, 27, 0, 0, 0), (20, .aload_n 0, 21, 0, 0, 0, 0), (21, .bipush (-2), 23, 0, 0, -2, 0), (23, .invokevirtual 112, 26, 1, 0, 0, 0), (26, .ireturn, 27, 0, 0, 0, 0), (27, .aload_n 0, 28, 0, 0, 0, 0), (28, .iconst 0, 29, 0, 0, 0, 0), (29, .putfield 88, 32, 11, 1, 0, 0), (32, .iload_n 1, 33, 1, 0, 0, 0), (33, .i2l, 34, 0, 0, 0, 0), (34, .lstore_n 3, 35, 3, 0, 0, 0), (35, .iconst 0, 36, 0, 0, 0, 0), (36, .istore 5, 38, 5, 0, 0, 0), (38, .iload 5, 40, 5, 0, 0, 0), (40, .iload_n 2, 41, 2, 0, 0, 0), (41, .if_icmp .ge 82, 44, 123, 0, 0, 0), (44, .lload_n 3, 45, 3, 0, 0, 0), (45, .ldc2_w 234, 48, 0, 0, 0, 1103515245), (48, .lmul, 49, 0, 0, 0, 0), (49, .ldc2_w 236, 52, 0, 0, 0, 12345), (52, .ladd, 53, 0, 0, 0, 0), (53, .ldc2_w 238, 56, 0, 0, 0, 2147483648), (56, .lrem, 57, 0, 0, 0, 0), (57, .lstore_n 3, 58, 3, 0, 0, 0), (58, .lload_n 3, 59, 3, 0, 0, 0), (59, .ldc2_w 240, 62, 0, 0, 0, 65536), (62, .ldiv, 63, 0, 0, 0, 0), (63, .ldc2_w 242, 66, 0, 0, 0, 10), (66, .lrem, 67, 0, 0, 0, 0), (67, .l2i, 68, 0, 0, 0, 0), (68, .istore 6, 70, 6, 0, 0, 0), (70, .lload_n 3, 71, 3, 0, 0, 0), (71, .ldc2_w 244, 74, 0, 0, 0, 1024), (74, .ldiv, 75, 0, 0, 0, 0), (75, .ldc2_w 246, 78, 0, 0, 0, 4), (78, .lrem, 79, 0, 0, 0, 0), (79, .l2i, 80, 0, 0, 0, 0), (80, .istore 7, 82, 7, 0, 0, 0), (82, .lload_n 3, 83, 3, 0, 0, 0), (83, .ldc2_w 248, 86, 0, 0, 0, 4096), (86, .ldiv, 87, 0, 0, 0, 0), (87, .ldc2_w 242, 90, 0, 0, 0, 10), (90, .lrem, 91, 0, 0, 0, 0), (91, .l2i, 92, 0, 0, 0, 0), (92, .istore 8, 94, 8, 0, 0, 0), (94, .aload_n 0, 95, 0, 0, 0, 0), (95, .iload 6, 97, 6, 0, 0, 0), (97, .iload 7, 99, 7, 0, 0, 0), (99, .iload 8, 101, 8, 0, 0, 0), (101, .invokevirtual 115, 104, 3, 0, 0, 0), (104, .ifCond .ne 13, 107, 117, 0, 0, 0), (107, .aload_n 0, 108, 0, 0, 0, 0), (108, .iload 6, 110, 6, 0, 0, 0), (110, .iload 7, 112, 7, 0, 0, 0), (112, .iload 8, 114, 8, 0, 0, 0), (114, .invokevirtual 118, 117, 3, 0, 0, 0), (117, .iinc 5 1, 120, 5, 0, 1, 0), (120, .goto (-82), 38, 0, 0, 0, 0), (123, .aload_n 0, 124, 0, 0, 0, 0), (124, .iconst 1, 125, 0, 0, 1, 0), (125, .invokevirtual 122, 128, 1, 0, 0, 0), (128, .pop, 129, 0, 0, 0, 0), (129, .aload_n 0, 130, 0, 0, 0, 0), (130, .getfield 88, 133, 11, 1, 0, 0), (133, .ireturn, 134, 0, 0, 0, 0)]
abbrev mX11_draw : MD := (yX11_draw, cX11_draw, 9, (some .int), { frames := 5, cells := 0, slots := 0, locals := 121 }, tbX11_draw)
def tbX11_toldOf : List (Nat × En) := [(0, .iconst 0, 1, 0, 0, 0, 0), (1, .istore_n 2, 2, 2, 0, 0, 0), (2, .iload_n 1, 3, 1, 0, 0, 0), (3, .tableswitch 91 0 5 #[37, 37, 37, 44, 49, 54], 40, 0, 37, 0, 0), (40, .aload_n 0, 41, 0, 0, 0, 0), (41, .getfield 13, 44, 11, 2, 0, 0), (44, .iload_n 1, 45, 1, 0, 0, 0), (45, .iaload, 46, 0, 0, 0, 0), (46, .ireturn, 47, 0, 0, 0, 0), (47, .aload_n 0, 48, 0, 0, 0, 0), (48, .getfield 132, 51, 11, 4, 0, 0), (51, .ireturn, 52, 0, 0, 0, 0), (52, .aload_n 0, 53, 0, 0, 0, 0), (53, .getfield 88, 56, 11, 1, 0, 0), (56, .ireturn, 57, 0, 0, 0, 0), (57, .iconst 0, 58, 0, 0, 0, 0), (58, .istore_n 3, 59, 3, 0, 0, 0), (59, .iload_n 3, 60, 3, 0, 0, 0), (60, .iconst 4, 61, 0, 0, 4, 0), (61, .if_icmp .ge 31, 64, 92, 0, 0, 0), (64, .iload_n 2, 65, 2, 0, 0, 0), (65, .aload_n 0, 66, 0, 0, 0, 0), (66, .getfield 19, 69, 11, 5, 0, 0), (69, .iload_n 3, 70, 3, 0, 0, 0), (70, .iaload, 71, 0, 0, 0, 0), (71, .ifCond .ge 7, 74, 78, 0, 0, 0), (74, .iconst 0, 75, 0, 0, 0, 0), (75, .goto 9, 84, 0, 0, 0, 0), (78, .aload_n 0, 79, 0, 0, 0, 0), (79, .getfield 19, 82, 11, 5, 0, 0), (82, .iload_n 3, 83, 3, 0, 0, 0), (83, .iaload, 84, 0, 0, 0, 0), (84, .iadd, 85, 0, 0, 0, 0), (85, .istore_n 2, 86, 2, 0, 0, 0), (86, .iinc 3 1, 89, 3, 0, 1, 0), (89, .goto (-30), 59, 0, 0, 0, 0), (92, .iload_n 2, 93, 2, 0, 0, 0), (93, .ireturn, 94, 0, 0, 0, 0), (94, .aload_n 0, 95, 0, 0, 0, 0), (95, .getfield 31, 98, 11, 9, 0, 0), (98, .ireturn, 99, 0, 0, 0, 0)]
abbrev mX11_toldOf : MD := (yX11_toldOf, cX11_toldOf, 4, (some .int), { frames := 0, cells := 0, slots := 0, locals := 0 }, tbX11_toldOf)
def tbX11_told : List (Nat × En) := [(0, .iload_n 1, 1, 1, 0, 0, 0), (1, .iconst 0, 2, 0, 0, 0, 0), (2, .bipush 6, 4, 0, 0, 6, 0), (4, .invokestatic 84, 7, 3, 0, 0, 0), (7, .ifCond .eq 11, 10, 18, 0, 0, 0), (10, .aload_n 0, 11, 0, 0, 0, 0), (11, .iload_n 1, 12, 1, 0, 0, 0), (12, .invokevirtual 250, 15, 1, 0, 0, 0), (15, .goto 9, 24, 0, 0, 0, 0), (18, .aload_n 0, 19, 0, 0, 0, 0), (19, .bipush (-2), 21, 0, 0, -2, 0), (21, .invokevirtual 112, 24, 1, 0, 0, 0), (24, .ireturn, 25, 0, 0, 0, 0)]
abbrev mX11_told : MD := (yX11_told, cX11_told, 2, (some .int), { frames := 1, cells := 0, slots := 0, locals := 23 }, tbX11_told)
def tbX11_digest : List (Nat × En) := [(0, .ldc2_w 253, 3, 0, 0, 0, 1931), (3, .lstore_n 1, 4, 1, 0, 0, 0), (4, .iconst 0, 5, 0, 0, 0, 0), (5, .istore_n 3, 6, 3, 0, 0, 0), (6, .iload_n 3, 7, 3, 0, 0, 0), (7, .bipush 7, 9, 0, 0, 7, 0), (9, .if_icmp .ge 22, 12, 31, 0, 0, 0), (12, .ldc2_w 255, 15, 0, 0, 0, 31), (15, .lload_n 1, 16, 1, 0, 0, 0), (16, .lmul, 17, 0, 0, 0, 0), (17, .aload_n 0, 18, 0, 0, 0, 0), (18, .iload_n 3, 19, 3, 0, 0, 0), (19, .invokevirtual 250, 22, 1, 0, 0, 0), (22, .i2l, 23, 0, 0, 0, 0), (23, .ladd, 24, 0, 0, 0, 0), (24, .lstore_n 1, 25, 1, 0, 0, 0), (25, .iinc 3 1, 28, 3, 0, 1, 0), (28, .goto (-22), 6, 0, 0, 0, 0), (31, .iconst 0, 32, 0, 0, 0, 0), (32, .istore_n 3, 33, 3, 0, 0, 0), (33, .iload_n 3, 34, 3, 0, 0, 0), (34, .iconst 3, 35, 0, 0, 3, 0), (35, .aload_n 0, 36, 0, 0, 0, 0), (36, .getfield 88, 39, 11, 1, 0, 0), (39, .imul, 40, 0, 0, 0, 0), (40, .if_icmp .ge 23, 43, 63, 0, 0, 0), (43, .ldc2_w 255, 46, 0, 0, 0, 31), (46, .lload_n 1, 47, 1, 0, 0, 0), (47, .lmul, 48, 0, 0, 0, 0), (48, .aload_n 0, 49, 0, 0, 0, 0), (49, .getfield 7, 52, 11, 0, 0, 0), (52, .iload_n 3, 53, 3, 0, 0, 0), (53, .iaload, 54, 0, 0, 0, 0), (54, .i2l, 55, 0, 0, 0, 0), (55, .ladd, 56, 0, 0, 0, 0), (56, .lstore_n 1, 57, 1, 0, 0, 0), (57, .iinc 3 1, 60, 3, 0, 1, 0), (60, .goto (-27), 33, 0, 0, 0, 0), (63, .iconst 0, 64, 0, 0, 0, 0), (64, .istore_n 3, 65, 3, 0, 0, 0), (65, .iload_n 3, 66, 3, 0, 0, 0), (66, .iconst 4, 67, 0, 0, 4, 0), (67, .if_icmp .ge 35, 70, 102, 0, 0, 0), (70, .ldc2_w 255, 73, 0, 0, 0, 31), (73, .lload_n 1, 74, 1, 0, 0, 0), (74, .lmul, 75, 0, 0, 0, 0), (75, .aload_n 0, 76, 0, 0, 0, 0), (76, .getfield 19, 79, 11, 5, 0, 0), (79, .iload_n 3, 80, 3, 0, 0, 0), (80, .iaload, 81, 0, 0, 0, 0), (81, .ifCond .ge 7, 84, 88, 0, 0, 0), (84, .iconst (-1), 85, 0, 0, -1, 0), (85, .goto 8, 93, 0, 0, 0, 0), (88, .aload_n 0, 89, 0, 0, 0, 0), (89, .iload_n 3, 90, 3, 0, 0, 0), (90, .invokevirtual 224, 93, 1, 0, 0, 0), (93, .i2l, 94, 0, 0, 0, 0), (94, .ladd, 95, 0, 0, 0, 0), (95, .lstore_n 1, 96, 1, 0, 0, 0), (96, .iinc 3 1, 99, 3, 0, 1, 0), (99, .goto (-34), 65, 0, 0, 0, 0), (102, .iconst 1, 103, 0, 0, 1, 0), (103, .istore_n 3, 104, 3, 0, 0, 0), (104, .iload_n 3, 105, 3, 0, 0, 0), (105, .iconst 4, 106, 0, 0, 4, 0), (106, .if_icmp .ge 22, 109, 128, 0, 0, 0), (109, .ldc2_w 255, 112, 0, 0, 0, 31), (112, .lload_n 1, 113, 1, 0, 0, 0), (113, .lmul, 114, 0, 0, 0, 0), (114, .aload_n 0, 115, 0, 0, 0, 0), (115, .iload_n 3, 116, 3, 0, 0, 0), (116, .invokevirtual 230, 119, 1, 0, 0, 0), (119, .i2l, 120, 0, 0, 0, 0), (120, .ladd, 121, 0, 0, 0, 0), (121, .lstore_n 1, 122, 1, 0, 0, 0), (122, .iinc 3 1, 125, 3, 0, 1, 0), (125, .goto (-21), 104, 0, 0, 0, 0), (128, .lload_n 1, 129, 1, 0, 0, 0), (129, .lreturn, 130, 0, 0, 0, 0)]
abbrev mX11_digest : MD := (yX11_digest, cX11_digest, 4, (some .long), { frames := 5, cells := 0, slots := 0, locals := 120 }, tbX11_digest)
def tbL_law : List (Nat × En) := [(0, .new 7, 3, 10, 0, 0, 0), (3, .dup, 4, 0, 0, 0, 0), (4, .invokespecial 9, 7, 0, 0, 0, 0), (7, .astore_n 1, 8, 1, 0, 0, 0), (8, .new 10, 11, 11, 0, 0, 0), (11, .dup, 12, 0, 0, 0, 0), (12, .invokespecial 12, 15, 0, 0, 0, 0), (15, .astore_n 2, 16, 2, 0, 0, 0), (16, .iconst 0, 17, 0, 0, 0, 0), (17, .istore_n 3, 18, 3, 0, 0, 0), (18, .iload_n 3, 19, 3, 0, 0, 0), (19, .aload_n 0, 20, 0, 0, 0, 0), (20, .arraylength, 21, 0, 0, 0, 0), (21, .bipush 6, 23, 0, 0, 6, 0), (23, .isub, 24, 0, 0, 0, 0), (24, .if_icmp .gt 926, 27, 950, 0, 0, 0), (27, .aload_n 0, 28, 0, 0, 0, 0), (28, .iload_n 3, 29, 3, 0, 0, 0), (29, .iaload, 30, 0, 0, 0, 0), (30, .bipush 31, 32, 0, 0, 31, 0), (32, .iand, 33, 0, 0, 0, 0), (33, .tableswitch 911 0 24 #[115, 158, 181, 194, 227, 260, 283, 296, 319, 352, 395, 428, 461, 504, 537, 560, 603, 656, 719, 762, 785, 808, 841, 874, 897], 148, 0, 115, 0, 0), (148, .aload_n 1, 149, 1, 0, 0, 0), (149, .aload_n 0, 150, 0, 0, 0, 0), (150, .iload_n 3, 151, 3, 0, 0, 0), (151, .iconst 1, 152, 0, 0, 1, 0), (152, .iadd, 153, 0, 0, 0, 0), (153, .iaload, 154, 0, 0, 0, 0), (154, .aload_n 0, 155, 0, 0, 0, 0), (155, .iload_n 3, 156, 3, 0, 0, 0), (156, .iconst 2, 157, 0, 0, 2, 0), (157, .iadd, 158, 0, 0, 0, 0), (158, .iaload, 159, 0, 0, 0, 0), (159, .aload_n 0, 160, 0, 0, 0, 0), (160, .iload_n 3, 161, 3, 0, 0, 0), (161, .iconst 3, 162, 0, 0, 3, 0), (162, .iadd, 163, 0, 0, 0, 0), (163, .iaload, 164, 0, 0, 0, 0), (164, .invokevirtual 13, 167, 3, 0, 0, 0), (167, .aload_n 2, 168, 2, 0, 0, 0), (168, .aload_n 0, 169, 0, 0, 0, 0), (169, .iload_n 3, 170, 3, 0, 0, 0), (170, .iconst 1, 171, 0, 0, 1, 0), (171, .iadd, 172, 0, 0, 0, 0), (172, .iaload, 173, 0, 0, 0, 0), (173, .aload_n 0, 174, 0, 0, 0, 0), (174, .iload_n 3, 175, 3, 0, 0, 0), (175, .iconst 2, 176, 0, 0, 2, 0), (176, .iadd, 177, 0, 0, 0, 0), (177, .iaload, 178, 0, 0, 0, 0), (178, .aload_n 0, 179, 0, 0, 0, 0), (179, .iload_n 3, 180, 3, 0, 0, 0), (180, .iconst 3, 181, 0, 0, 3, 0), (181, .iadd, 182, 0, 0, 0, 0), (182, .iaload, 183, 0, 0, 0, 0), (183, .invokevirtual 17, 186, 3, 0, 0, 0), (186, .if_icmp .eq 758, 189, 944, 0, 0, 0), (189, .iconst 0, 190, 0, 0, 0, 0), (190, .ireturn, 191, 0, 0, 0, 0), (191, .aload_n 1, 192, 1, 0, 0, 0), (192, .aload_n 0, 193, 0, 0, 0, 0), (193, .iload_n 3, 194, 3, 0, 0, 0), (194, .iconst 1, 195, 0, 0, 1, 0), (195, .iadd, 196, 0, 0, 0, 0), (196, .iaload, 197, 0, 0, 0, 0), (197, .invokevirtual 18, 200, 1, 0, 0, 0), (200, .aload_n 2, 201, 2, 0, 0, 0), (201, .aload_n 0, 202, 0, 0, 0, 0), (202, .iload_n 3, 203, 3, 0, 0, 0), (203, .iconst 1, 204, 0, 0, 1, 0), (204, .iadd, 205, 0, 0, 0, 0), (205, .iaload, 206, 0, 0, 0, 0), (206, .invokevirtual 22, 209, 1, 0, 0, 0), (209, .if_icmp .eq 735, 212, 944, 0, 0, 0), (212, .iconst 0, 213, 0, 0, 0, 0), (213, .ireturn, 214, 0, 0, 0, 0), (214, .aload_n 1, 215, 1, 0, 0, 0), (215, .invokevirtual 23, 218, 0, 0, 0, 0), (218, .aload_n 2, 219, 2, 0, 0, 0), (219, .invokevirtual 27, 222, 0, 0, 0, 0), (222, .if_icmp .eq 722, 225, 944, 0, 0, 0), (225, .iconst 0, 226, 0, 0, 0, 0), (226, .ireturn, 227, 0, 0, 0, 0), (227, .aload_n 1, 228, 1, 0, 0, 0), (228, .aload_n 0, 229, 0, 0, 0, 0), (229, .iload_n 3, 230, 3, 0, 0, 0), (230, .iconst 1, 231, 0, 0, 1, 0), (231, .iadd, 232, 0, 0, 0, 0), (232, .iaload, 233, 0, 0, 0, 0), (233, .aload_n 0, 234, 0, 0, 0, 0), (234, .iload_n 3, 235, 3, 0, 0, 0), (235, .iconst 2, 236, 0, 0, 2, 0), (236, .iadd, 237, 0, 0, 0, 0), (237, .iaload, 238, 0, 0, 0, 0), (238, .invokevirtual 28, 241, 2, 0, 0, 0), (241, .aload_n 2, 242, 2, 0, 0, 0), (242, .aload_n 0, 243, 0, 0, 0, 0), (243, .iload_n 3, 244, 3, 0, 0, 0), (244, .iconst 1, 245, 0, 0, 1, 0), (245, .iadd, 246, 0, 0, 0, 0), (246, .iaload, 247, 0, 0, 0, 0), (247, .aload_n 0, 248, 0, 0, 0, 0), (248, .iload_n 3, 249, 3, 0, 0, 0), (249, .iconst 2, 250, 0, 0, 2, 0), (250, .iadd, 251, 0, 0, 0, 0), (251, .iaload, 252, 0, 0, 0, 0), (252, .invokevirtual 32, 255, 2, 0, 0, 0), (255, .if_icmp .eq 689, 258, 944, 0, 0, 0), (258, .iconst 0, 259, 0, 0, 0, 0), (259, .ireturn, 260, 0, 0, 0, 0), (260, .aload_n 1, 261, 1, 0, 0, 0), (261, .aload_n 0, 262, 0, 0, 0, 0), (262, .iload_n 3, 263, 3, 0, 0, 0), (263, .iconst 1, 264, 0, 0, 1, 0), (264, .iadd, 265, 0, 0, 0, 0), (265, .iaload, 266, 0, 0, 0, 0), (266, .aload_n 0, 267, 0, 0, 0, 0), (267, .iload_n 3, 268, 3, 0, 0, 0), (268, .iconst 2, 269, 0, 0, 2, 0), (269, .iadd, 270, 0, 0, 0, 0), (270, .iaload, 271, 0, 0, 0, 0), (271, .invokevirtual 33, 274, 2, 0, 0, 0), (274, .aload_n 2, 275, 2, 0, 0, 0), (275, .aload_n 0, 276, 0, 0, 0, 0), (276, .iload_n 3, 277, 3, 0, 0, 0), (277, .iconst 1, 278, 0, 0, 1, 0), (278, .iadd, 279, 0, 0, 0, 0), (279, .iaload, 280, 0, 0, 0, 0), (280, .aload_n 0, 281, 0, 0, 0, 0), (281, .iload_n 3, 282, 3, 0, 0, 0), (282, .iconst 2, 283, 0, 0, 2, 0), (283, .iadd, 284, 0, 0, 0, 0), (284, .iaload, 285, 0, 0, 0, 0), (285, .invokevirtual 36, 288, 2, 0, 0, 0), (288, .if_icmp .eq 656, 291, 944, 0, 0, 0), (291, .iconst 0, 292, 0, 0, 0, 0), (292, .ireturn, 293, 0, 0, 0, 0), (293, .aload_n 1, 294, 1, 0, 0, 0), (294, .aload_n 0, 295, 0, 0, 0, 0), (295, .iload_n 3, 296, 3, 0, 0, 0), (296, .iconst 1, 297, 0, 0, 1, 0), (297, .iadd, 298, 0, 0, 0, 0), (298, .iaload, 299, 0, 0, 0, 0), (299, .invokevirtual 37, 302, 1, 0, 0, 0), (302, .aload_n 2, 303, 2, 0, 0, 0), (303, .aload_n 0, 304, 0, 0, 0, 0), (304, .iload_n 3, 305, 3, 0, 0, 0), (305, .iconst 1, 306, 0, 0, 1, 0), (306, .iadd, 307, 0, 0, 0, 0), (307, .iaload, 308, 0, 0, 0, 0), (308, .invokevirtual 40, 311, 1, 0, 0, 0), (311, .if_icmp .eq 633, 314, 944, 0, 0, 0), (314, .iconst 0, 315, 0, 0, 0, 0), (315, .ireturn, 316, 0, 0, 0, 0), (316, .aload_n 1, 317, 1, 0, 0, 0), (317, .invokevirtual 41, 320, 0, 0, 0, 0), (320, .aload_n 2, 321, 2, 0, 0, 0), (321, .invokevirtual 44, 324, 0, 0, 0, 0), (324, .if_icmp .eq 620, 327, 944, 0, 0, 0), (327, .iconst 0, 328, 0, 0, 0, 0), (328, .ireturn, 329, 0, 0, 0, 0), (329, .aload_n 1, 330, 1, 0, 0, 0), (330, .aload_n 0, 331, 0, 0, 0, 0), (331, .iload_n 3, 332, 3, 0, 0, 0), (332, .iconst 1, 333, 0, 0, 1, 0), (333, .iadd, 334, 0, 0, 0, 0), (334, .iaload, 335, 0, 0, 0, 0), (335, .invokevirtual 45, 338, 1, 0, 0, 0), (338, .aload_n 2, 339, 2, 0, 0, 0), (339, .aload_n 0, 340, 0, 0, 0, 0), (340, .iload_n 3, 341, 3, 0, 0, 0), (341, .iconst 1, 342, 0, 0, 1, 0), (342, .iadd, 343, 0, 0, 0, 0), (343, .iaload, 344, 0, 0, 0, 0), (344, .invokevirtual 48, 347, 1, 0, 0, 0), (347, .if_icmp .eq 597, 350, 944, 0, 0, 0), (350, .iconst 0, 351, 0, 0, 0, 0), (351, .ireturn, 352, 0, 0, 0, 0), (352, .aload_n 1, 353, 1, 0, 0, 0), (353, .aload_n 0, 354, 0, 0, 0, 0), (354, .iload_n 3, 355, 3, 0, 0, 0), (355, .iconst 1, 356, 0, 0, 1, 0), (356, .iadd, 357, 0, 0, 0, 0), (357, .iaload, 358, 0, 0, 0, 0), (358, .aload_n 0, 359, 0, 0, 0, 0), (359, .iload_n 3, 360, 3, 0, 0, 0), (360, .iconst 2, 361, 0, 0, 2, 0), (361, .iadd, 362, 0, 0, 0, 0), (362, .iaload, 363, 0, 0, 0, 0), (363, .invokevirtual 49, 366, 2, 0, 0, 0), (366, .aload_n 2, 367, 2, 0, 0, 0), (367, .aload_n 0, 368, 0, 0, 0, 0), (368, .iload_n 3, 369, 3, 0, 0, 0), (369, .iconst 1, 370, 0, 0, 1, 0), (370, .iadd, 371, 0, 0, 0, 0), (371, .iaload, 372, 0, 0, 0, 0), (372, .aload_n 0, 373, 0, 0, 0, 0), (373, .iload_n 3, 374, 3, 0, 0, 0), (374, .iconst 2, 375, 0, 0, 2, 0), (375, .iadd, 376, 0, 0, 0, 0), (376, .iaload, 377, 0, 0, 0, 0), (377, .invokevirtual 52, 380, 2, 0, 0, 0), (380, .if_icmp .eq 564, 383, 944, 0, 0, 0), (383, .iconst 0, 384, 0, 0, 0, 0), (384, .ireturn, 385, 0, 0, 0, 0), (385, .aload_n 1, 386, 1, 0, 0, 0), (386, .aload_n 0, 387, 0, 0, 0, 0), (387, .iload_n 3, 388, 3, 0, 0, 0), (388, .iconst 1, 389, 0, 0, 1, 0), (389, .iadd, 390, 0, 0, 0, 0), (390, .iaload, 391, 0, 0, 0, 0), (391, .aload_n 0, 392, 0, 0, 0, 0), (392, .iload_n 3, 393, 3, 0, 0, 0), (393, .iconst 2, 394, 0, 0, 2, 0), (394, .iadd, 395, 0, 0, 0, 0), (395, .iaload, 396, 0, 0, 0, 0), (396, .aload_n 0, 397, 0, 0, 0, 0), (397, .iload_n 3, 398, 3, 0, 0, 0), (398, .iconst 3, 399, 0, 0, 3, 0), (399, .iadd, 400, 0, 0, 0, 0), (400, .iaload, 401, 0, 0, 0, 0), (401, .invokevirtual 53, 404, 3, 0, 0, 0), (404, .aload_n 2, 405, 2, 0, 0, 0), (405, .aload_n 0, 406, 0, 0, 0, 0), (406, .iload_n 3, 407, 3, 0, 0, 0), (407, .iconst 1, 408, 0, 0, 1, 0), (408, .iadd, 409, 0, 0, 0, 0), (409, .iaload, 410, 0, 0, 0, 0), (410, .aload_n 0, 411, 0, 0, 0, 0), (411, .iload_n 3, 412, 3, 0, 0, 0), (412, .iconst 2, 413, 0, 0, 2, 0), (413, .iadd, 414, 0, 0, 0, 0), (414, .iaload, 415, 0, 0, 0, 0), (415, .aload_n 0, 416, 0, 0, 0, 0), (416, .iload_n 3, 417, 3, 0, 0, 0), (417, .iconst 3, 418, 0, 0, 3, 0), (418, .iadd, 419, 0, 0, 0, 0), (419, .iaload, 420, 0, 0, 0, 0), (420, .invokevirtual 56, 423, 3, 0, 0, 0), (423, .if_icmp .eq 521, 426, 944, 0, 0, 0), (426, .iconst 0, 427, 0, 0, 0, 0), (427, .ireturn, 428, 0, 0, 0, 0), (428, .aload_n 1, 429, 1, 0, 0, 0), (429, .aload_n 0, 430, 0, 0, 0, 0), (430, .iload_n 3, 431, 3, 0, 0, 0), (431, .iconst 1, 432, 0, 0, 1, 0), (432, .iadd, 433, 0, 0, 0, 0), (433, .iaload, 434, 0, 0, 0, 0), (434, .aload_n 0, 435, 0, 0, 0, 0), (435, .iload_n 3, 436, 3, 0, 0, 0), (436, .iconst 2, 437, 0, 0, 2, 0), (437, .iadd, 438, 0, 0, 0, 0), (438, .iaload, 439, 0, 0, 0, 0), (439, .invokevirtual 57, 442, 2, 0, 0, 0), (442, .aload_n 2, 443, 2, 0, 0, 0), (443, .aload_n 0, 444, 0, 0, 0, 0), (444, .iload_n 3, 445, 3, 0, 0, 0), (445, .iconst 1, 446, 0, 0, 1, 0), (446, .iadd, 447, 0, 0, 0, 0), (447, .iaload, 448, 0, 0, 0, 0), (448, .aload_n 0, 449, 0, 0, 0, 0), (449, .iload_n 3, 450, 3, 0, 0, 0), (450, .iconst 2, 451, 0, 0, 2, 0), (451, .iadd, 452, 0, 0, 0, 0), (452, .iaload, 453, 0, 0, 0, 0), (453, .invokevirtual 60, 456, 2, 0, 0, 0), (456, .if_icmp .eq 488, 459, 944, 0, 0, 0), (459, .iconst 0, 460, 0, 0, 0, 0), (460, .ireturn, 461, 0, 0, 0, 0), (461, .aload_n 1, 462, 1, 0, 0, 0), (462, .aload_n 0, 463, 0, 0, 0, 0), (463, .iload_n 3, 464, 3, 0, 0, 0), (464, .iconst 1, 465, 0, 0, 1, 0), (465, .iadd, 466, 0, 0, 0, 0), (466, .iaload, 467, 0, 0, 0, 0), (467, .aload_n 0, 468, 0, 0, 0, 0), (468, .iload_n 3, 469, 3, 0, 0, 0), (469, .iconst 2, 470, 0, 0, 2, 0), (470, .iadd, 471, 0, 0, 0, 0), (471, .iaload, 472, 0, 0, 0, 0), (472, .invokevirtual 61, 475, 2, 0, 0, 0), (475, .aload_n 2, 476, 2, 0, 0, 0), (476, .aload_n 0, 477, 0, 0, 0, 0), (477, .iload_n 3, 478, 3, 0, 0, 0), (478, .iconst 1, 479, 0, 0, 1, 0), (479, .iadd, 480, 0, 0, 0, 0), (480, .iaload, 481, 0, 0, 0, 0), (481, .aload_n 0, 482, 0, 0, 0, 0), (482, .iload_n 3, 483, 3, 0, 0, 0), (483, .iconst 2, 484, 0, 0, 2, 0), (484, .iadd, 485, 0, 0, 0, 0), (485, .iaload, 486, 0, 0, 0, 0), (486, .invokevirtual 64, 489, 2, 0, 0, 0), (489, .if_icmp .eq 455, 492, 944, 0, 0, 0), (492, .iconst 0, 493, 0, 0, 0, 0), (493, .ireturn, 494, 0, 0, 0, 0), (494, .aload_n 1, 495, 1, 0, 0, 0), (495, .aload_n 0, 496, 0, 0, 0, 0), (496, .iload_n 3, 497, 3, 0, 0, 0), (497, .iconst 1, 498, 0, 0, 1, 0), (498, .iadd, 499, 0, 0, 0, 0), (499, .iaload, 500, 0, 0, 0, 0), (500, .aload_n 0, 501, 0, 0, 0, 0), (501, .iload_n 3, 502, 3, 0, 0, 0), (502, .iconst 2, 503, 0, 0, 2, 0), (503, .iadd, 504, 0, 0, 0, 0), (504, .iaload, 505, 0, 0, 0, 0), (505, .aload_n 0, 506, 0, 0, 0, 0), (506, .iload_n 3, 507, 3, 0, 0, 0), (507, .iconst 3, 508, 0, 0, 3, 0), (508, .iadd, 509, 0, 0, 0, 0), (509, .iaload, 510, 0, 0, 0, 0), (510, .invokevirtual 65, 513, 3, 0, 0, 0), (513, .aload_n 2, 514, 2, 0, 0, 0), (514, .aload_n 0, 515, 0, 0, 0, 0), (515, .iload_n 3, 516, 3, 0, 0, 0), (516, .iconst 1, 517, 0, 0, 1, 0), (517, .iadd, 518, 0, 0, 0, 0), (518, .iaload, 519, 0, 0, 0, 0), (519, .aload_n 0, 520, 0, 0, 0, 0), (520, .iload_n 3, 521, 3, 0, 0, 0), (521, .iconst 2, 522, 0, 0, 2, 0), (522, .iadd, 523, 0, 0, 0, 0), (523, .iaload, 524, 0, 0, 0, 0), (524, .aload_n 0, 525, 0, 0, 0, 0), (525, .iload_n 3, 526, 3, 0, 0, 0), (526, .iconst 3, 527, 0, 0, 3, 0), (527, .iadd, 528, 0, 0, 0, 0), (528, .iaload, 529, 0, 0, 0, 0), (529, .invokevirtual 68, 532, 3, 0, 0, 0), (532, .if_icmp .eq 412, 535, 944, 0, 0, 0), (535, .iconst 0, 536, 0, 0, 0, 0), (536, .ireturn, 537, 0, 0, 0, 0), (537, .aload_n 1, 538, 1, 0, 0, 0), (538, .aload_n 0, 539, 0, 0, 0, 0), (539, .iload_n 3, 540, 3, 0, 0, 0), (540, .iconst 1, 541, 0, 0, 1, 0), (541, .iadd, 542, 0, 0, 0, 0), (542, .iaload, 543, 0, 0, 0, 0), (543, .aload_n 0, 544, 0, 0, 0, 0), (544, .iload_n 3, 545, 3, 0, 0, 0), (545, .iconst 2, 546, 0, 0, 2, 0), (546, .iadd, 547, 0, 0, 0, 0), (547, .iaload, 548, 0, 0, 0, 0), (548, .invokevirtual 69, 551, 2, 0, 0, 0), (551, .aload_n 2, 552, 2, 0, 0, 0), (552, .aload_n 0, 553, 0, 0, 0, 0), (553, .iload_n 3, 554, 3, 0, 0, 0), (554, .iconst 1, 555, 0, 0, 1, 0), (555, .iadd, 556, 0, 0, 0, 0), (556, .iaload, 557, 0, 0, 0, 0), (557, .aload_n 0, 558, 0, 0, 0, 0), (558, .iload_n 3, 559, 3, 0, 0, 0), (559, .iconst 2, 560, 0, 0, 2, 0), (560, .iadd, 561, 0, 0, 0, 0), (561, .iaload, 562, 0, 0, 0, 0), (562, .invokevirtual 72, 565, 2, 0, 0, 0), (565, .if_icmp .eq 379, 568, 944, 0, 0, 0), (568, .iconst 0, 569, 0, 0, 0, 0), (569, .ireturn, 570, 0, 0, 0, 0), (570, .aload_n 1, 571, 1, 0, 0, 0), (571, .aload_n 0, 572, 0, 0, 0, 0), (572, .iload_n 3, 573, 3, 0, 0, 0), (573, .iconst 1, 574, 0, 0, 1, 0), (574, .iadd, 575, 0, 0, 0, 0), (575, .iaload, 576, 0, 0, 0, 0), (576, .invokevirtual 73, 579, 1, 0, 0, 0), (579, .aload_n 2, 580, 2, 0, 0, 0), (580, .aload_n 0, 581, 0, 0, 0, 0), (581, .iload_n 3, 582, 3, 0, 0, 0), (582, .iconst 1, 583, 0, 0, 1, 0), (583, .iadd, 584, 0, 0, 0, 0), (584, .iaload, 585, 0, 0, 0, 0), (585, .invokevirtual 76, 588, 1, 0, 0, 0), (588, .if_icmp .eq 356, 591, 944, 0, 0, 0), (591, .iconst 0, 592, 0, 0, 0, 0), (592, .ireturn, 593, 0, 0, 0, 0), (593, .aload_n 1, 594, 1, 0, 0, 0), (594, .aload_n 0, 595, 0, 0, 0, 0), (595, .iload_n 3, 596, 3, 0, 0, 0), (596, .iconst 1, 597, 0, 0, 1, 0), (597, .iadd, 598, 0, 0, 0, 0), (598, .iaload, 599, 0, 0, 0, 0), (599, .aload_n 0, 600, 0, 0, 0, 0), (600, .iload_n 3, 601, 3, 0, 0, 0), (601, .iconst 2, 602, 0, 0, 2, 0), (602, .iadd, 603, 0, 0, 0, 0), (603, .iaload, 604, 0, 0, 0, 0), (604, .aload_n 0, 605, 0, 0, 0, 0), (605, .iload_n 3, 606, 3, 0, 0, 0), (606, .iconst 3, 607, 0, 0, 3, 0), (607, .iadd, 608, 0, 0, 0, 0), (608, .iaload, 609, 0, 0, 0, 0), (609, .invokevirtual 77, 612, 3, 0, 0, 0), (612, .aload_n 2, 613, 2, 0, 0, 0), (613, .aload_n 0, 614, 0, 0, 0, 0), (614, .iload_n 3, 615, 3, 0, 0, 0), (615, .iconst 1, 616, 0, 0, 1, 0), (616, .iadd, 617, 0, 0, 0, 0), (617, .iaload, 618, 0, 0, 0, 0), (618, .aload_n 0, 619, 0, 0, 0, 0), (619, .iload_n 3, 620, 3, 0, 0, 0), (620, .iconst 2, 621, 0, 0, 2, 0), (621, .iadd, 622, 0, 0, 0, 0), (622, .iaload, 623, 0, 0, 0, 0), (623, .aload_n 0, 624, 0, 0, 0, 0), (624, .iload_n 3, 625, 3, 0, 0, 0), (625, .iconst 3, 626, 0, 0, 3, 0), (626, .iadd, 627, 0, 0, 0, 0), (627, .iaload, 628, 0, 0, 0, 0), (628, .invokevirtual 80, 631, 3, 0, 0, 0), (631, .if_icmp .eq 313, 634, 944, 0, 0, 0), (634, .iconst 0, 635, 0, 0, 0, 0), (635, .ireturn, 636, 0, 0, 0, 0), (636, .aload_n 1, 637, 1, 0, 0, 0), (637, .aload_n 0, 638, 0, 0, 0, 0), (638, .iload_n 3, 639, 3, 0, 0, 0), (639, .iconst 1, 640, 0, 0, 1, 0), (640, .iadd, 641, 0, 0, 0, 0), (641, .iaload, 642, 0, 0, 0, 0), (642, .aload_n 0, 643, 0, 0, 0, 0), (643, .iload_n 3, 644, 3, 0, 0, 0), (644, .iconst 2, 645, 0, 0, 2, 0), (645, .iadd, 646, 0, 0, 0, 0), (646, .iaload, 647, 0, 0, 0, 0), (647, .aload_n 0, 648, 0, 0, 0, 0), (648, .iload_n 3, 649, 3, 0, 0, 0), (649, .iconst 3, 650, 0, 0, 3, 0), (650, .iadd, 651, 0, 0, 0, 0), (651, .iaload, 652, 0, 0, 0, 0), (652, .aload_n 0, 653, 0, 0, 0, 0), (653, .iload_n 3, 654, 3, 0, 0, 0), (654, .iconst 4, 655, 0, 0, 4, 0), (655, .iadd, 656, 0, 0, 0, 0), (656, .iaload, 657, 0, 0, 0, 0), (657, .invokevirtual 81, 660, 4, 0, 0, 0), (660, .aload_n 2, 661, 2, 0, 0, 0), (661, .aload_n 0, 662, 0, 0, 0, 0), (662, .iload_n 3, 663, 3, 0, 0, 0), (663, .iconst 1, 664, 0, 0, 1, 0), (664, .iadd, 665, 0, 0, 0, 0), (665, .iaload, 666, 0, 0, 0, 0), (666, .aload_n 0, 667, 0, 0, 0, 0), (667, .iload_n 3, 668, 3, 0, 0, 0), (668, .iconst 2, 669, 0, 0, 2, 0), (669, .iadd, 670, 0, 0, 0, 0), (670, .iaload, 671, 0, 0, 0, 0), (671, .aload_n 0, 672, 0, 0, 0, 0), (672, .iload_n 3, 673, 3, 0, 0, 0), (673, .iconst 3, 674, 0, 0, 3, 0), (674, .iadd, 675, 0, 0, 0, 0), (675, .iaload, 676, 0, 0, 0, 0), (676, .aload_n 0, 677, 0, 0, 0, 0), (677, .iload_n 3, 678, 3, 0, 0, 0), (678, .iconst 4, 679, 0, 0, 4, 0), (679, .iadd, 680, 0, 0, 0, 0), (680, .iaload, 681, 0, 0, 0, 0), (681, .invokevirtual 85, 684, 4, 0, 0, 0), (684, .if_icmp .eq 260, 687, 944, 0, 0, 0), (687, .iconst 0, 688, 0, 0, 0, 0), (688, .ireturn, 689, 0, 0, 0, 0), (689, .aload_n 1, 690, 1, 0, 0, 0), (690, .aload_n 0, 691, 0, 0, 0, 0), (691, .iload_n 3, 692, 3, 0, 0, 0), (692, .iconst 1, 693, 0, 0, 1, 0), (693, .iadd, 694, 0, 0, 0, 0), (694, .iaload, 695, 0, 0, 0, 0), (695, .aload_n 0, 696, 0, 0, 0, 0), (696, .iload_n 3, 697, 3, 0, 0, 0), (697, .iconst 2, 698, 0, 0, 2, 0), (698, .iadd, 699, 0, 0, 0, 0), (699, .iaload, 700, 0, 0, 0, 0), (700, .aload_n 0, 701, 0, 0, 0, 0), (701, .iload_n 3, 702, 3, 0, 0, 0), (702, .iconst 3, 703, 0, 0, 3, 0), (703, .iadd, 704, 0, 0, 0, 0), (704, .iaload, 705, 0, 0, 0, 0), (705, .aload_n 0, 706, 0, 0, 0, 0), (706, .iload_n 3, 707, 3, 0, 0, 0), (707, .iconst 4, 708, 0, 0, 4, 0), (708, .iadd, 709, 0, 0, 0, 0), (709, .iaload, 710, 0, 0, 0, 0), (710, .aload_n 0, 711, 0, 0, 0, 0), (711, .iload_n 3, 712, 3, 0, 0, 0), (712, .iconst 5, 713, 0, 0, 5, 0), (713, .iadd, 714, 0, 0, 0, 0), (714, .iaload, 715, 0, 0, 0, 0), (715, .invokevirtual 86, 718, 5, 0, 0, 0), (718, .aload_n 2, 719, 2, 0, 0, 0), (719, .aload_n 0, 720, 0, 0, 0, 0), (720, .iload_n 3, 721, 3, 0, 0, 0), (721, .iconst 1, 722, 0, 0, 1, 0), (722, .iadd, 723, 0, 0, 0, 0), (723, .iaload, 724, 0, 0, 0, 0), (724, .aload_n 0, 725, 0, 0, 0, 0), (725, .iload_n 3, 726, 3, 0, 0, 0), (726, .iconst 2, 727, 0, 0, 2, 0), (727, .iadd, 728, 0, 0, 0, 0), (728, .iaload, 729, 0, 0, 0, 0), (729, .aload_n 0, 730, 0, 0, 0, 0), (730, .iload_n 3, 731, 3, 0, 0, 0), (731, .iconst 3, 732, 0, 0, 3, 0), (732, .iadd, 733, 0, 0, 0, 0), (733, .iaload, 734, 0, 0, 0, 0), (734, .aload_n 0, 735, 0, 0, 0, 0), (735, .iload_n 3, 736, 3, 0, 0, 0), (736, .iconst 4, 737, 0, 0, 4, 0), (737, .iadd, 738, 0, 0, 0, 0), (738, .iaload, 739, 0, 0, 0, 0), (739, .aload_n 0, 740, 0, 0, 0, 0), (740, .iload_n 3, 741, 3, 0, 0, 0), (741, .iconst 5, 742, 0, 0, 5, 0), (742, .iadd, 743, 0, 0, 0, 0), (743, .iaload, 744, 0, 0, 0, 0), (744, .invokevirtual 90, 747, 5, 0, 0, 0), (747, .if_icmp .eq 197, 750, 944, 0, 0, 0), (750, .iconst 0, 751, 0, 0, 0, 0), (751, .ireturn, 752, 0, 0, 0, 0), (752, .aload_n 1, 753, 1, 0, 0, 0), (753, .aload_n 0, 754, 0, 0, 0, 0), (754, .iload_n 3, 755, 3, 0, 0, 0), (755, .iconst 1, 756, 0, 0, 1, 0), (756, .iadd, 757, 0, 0, 0, 0), (757, .iaload, 758, 0, 0, 0, 0), (758, .aload_n 0, 759, 0, 0, 0, 0), (759, .iload_n 3, 760, 3, 0, 0, 0), (760, .iconst 2, 761, 0, 0, 2, 0), (761, .iadd, 762, 0, 0, 0, 0), (762, .iaload, 763, 0, 0, 0, 0), (763, .aload_n 0, 764, 0, 0, 0, 0), (764, .iload_n 3, 765, 3, 0, 0, 0), (765, .iconst 3, 766, 0, 0, 3, 0), (766, .iadd, 767, 0, 0, 0, 0), (767, .iaload, 768, 0, 0, 0, 0), (768, .invokevirtual 91, 771, 3, 0, 0, 0), (771, .aload_n 2, 772, 2, 0, 0, 0), (772, .aload_n 0, 773, 0, 0, 0, 0), (773, .iload_n 3, 774, 3, 0, 0, 0), (774, .iconst 1, 775, 0, 0, 1, 0), (775, .iadd, 776, 0, 0, 0, 0), (776, .iaload, 777, 0, 0, 0, 0), (777, .aload_n 0, 778, 0, 0, 0, 0), (778, .iload_n 3, 779, 3, 0, 0, 0), (779, .iconst 2, 780, 0, 0, 2, 0), (780, .iadd, 781, 0, 0, 0, 0), (781, .iaload, 782, 0, 0, 0, 0), (782, .aload_n 0, 783, 0, 0, 0, 0), (783, .iload_n 3, 784, 3, 0, 0, 0), (784, .iconst 3, 785, 0, 0, 3, 0), (785, .iadd, 786, 0, 0, 0, 0), (786, .iaload, 787, 0, 0, 0, 0), (787, .invokevirtual 94, 790, 3, 0, 0, 0), (790, .if_icmp .eq 154, 793, 944, 0, 0, 0), (793, .iconst 0, 794, 0, 0, 0, 0), (794, .ireturn, 795, 0, 0, 0, 0), (795, .aload_n 1, 796, 1, 0, 0, 0), (796, .aload_n 0, 797, 0, 0, 0, 0), (797, .iload_n 3, 798, 3, 0, 0, 0), (798, .iconst 1, 799, 0, 0, 1, 0), (799, .iadd, 800, 0, 0, 0, 0), (800, .iaload, 801, 0, 0, 0, 0), (801, .invokevirtual 95, 804, 1, 0, 0, 0), (804, .aload_n 2, 805, 2, 0, 0, 0), (805, .aload_n 0, 806, 0, 0, 0, 0), (806, .iload_n 3, 807, 3, 0, 0, 0), (807, .iconst 1, 808, 0, 0, 1, 0), (808, .iadd, 809, 0, 0, 0, 0), (809, .iaload, 810, 0, 0, 0, 0), (810, .invokevirtual 98, 813, 1, 0, 0, 0), (813, .if_icmp .eq 131, 816, 944, 0, 0, 0), (816, .iconst 0, 817, 0, 0, 0, 0), (817, .ireturn, 818, 0, 0, 0, 0), (818, .aload_n 1, 819, 1, 0, 0, 0), (819, .aload_n 0, 820, 0, 0, 0, 0), (820, .iload_n 3, 821, 3, 0, 0, 0), (821, .iconst 1, 822, 0, 0, 1, 0), (822, .iadd, 823, 0, 0, 0, 0), (823, .iaload, 824, 0, 0, 0, 0), (824, .invokevirtual 99, 827, 1, 0, 0, 0), (827, .aload_n 2, 828, 2, 0, 0, 0), (828, .aload_n 0, 829, 0, 0, 0, 0), (829, .iload_n 3, 830, 3, 0, 0, 0), (830, .iconst 1, 831, 0, 0, 1, 0), (831, .iadd, 832, 0, 0, 0, 0), (832, .iaload, 833, 0, 0, 0, 0), (833, .invokevirtual 102, 836, 1, 0, 0, 0), (836, .if_icmp .eq 108, 839, 944, 0, 0, 0), (839, .iconst 0, 840, 0, 0, 0, 0), (840, .ireturn, 841, 0, 0, 0, 0), (841, .aload_n 1, 842, 1, 0, 0, 0), (842, .aload_n 0, 843, 0, 0, 0, 0), (843, .iload_n 3, 844, 3, 0, 0, 0), (844, .iconst 1, 845, 0, 0, 1, 0), (845, .iadd, 846, 0, 0, 0, 0), (846, .iaload, 847, 0, 0, 0, 0), (847, .aload_n 0, 848, 0, 0, 0, 0), (848, .iload_n 3, 849, 3, 0, 0, 0), (849, .iconst 2, 850, 0, 0, 2, 0), (850, .iadd, 851, 0, 0, 0, 0), (851, .iaload, 852, 0, 0, 0, 0), (852, .invokevirtual 103, 855, 2, 0, 0, 0), (855, .aload_n 2, 856, 2, 0, 0, 0), (856, .aload_n 0, 857, 0, 0, 0, 0), (857, .iload_n 3, 858, 3, 0, 0, 0), (858, .iconst 1, 859, 0, 0, 1, 0), (859, .iadd, 860, 0, 0, 0, 0), (860, .iaload, 861, 0, 0, 0, 0), (861, .aload_n 0, 862, 0, 0, 0, 0), (862, .iload_n 3, 863, 3, 0, 0, 0), (863, .iconst 2, 864, 0, 0, 2, 0), (864, .iadd, 865, 0, 0, 0, 0), (865, .iaload, 866, 0, 0, 0, 0), (866, .invokevirtual 106, 869, 2, 0, 0, 0), (869, .if_icmp .eq 75, 872, 944, 0, 0, 0), (872, .iconst 0, 873, 0, 0, 0, 0), (873, .ireturn, 874, 0, 0, 0, 0), (874, .aload_n 1, 875, 1, 0, 0, 0), (875, .aload_n 0, 876, 0, 0, 0, 0), (876, .iload_n 3, 877, 3, 0, 0, 0), (877, .iconst 1, 878, 0, 0, 1, 0), (878, .iadd, 879, 0, 0, 0, 0), (879, .iaload, 880, 0, 0, 0, 0), (880, .aload_n 0, 881, 0, 0, 0, 0), (881, .iload_n 3, 882, 3, 0, 0, 0), (882, .iconst 2, 883, 0, 0, 2, 0), (883, .iadd, 884, 0, 0, 0, 0), (884, .iaload, 885, 0, 0, 0, 0), (885, .invokevirtual 107, 888, 2, 0, 0, 0), (888, .aload_n 2, 889, 2, 0, 0, 0), (889, .aload_n 0, 890, 0, 0, 0, 0), (890, .iload_n 3, 891, 3, 0, 0, 0), (891, .iconst 1, 892, 0, 0, 1, 0), (892, .iadd, 893, 0, 0, 0, 0), (893, .iaload, 894, 0, 0, 0, 0), (894, .aload_n 0, 895, 0, 0, 0, 0), (895, .iload_n 3, 896, 3, 0, 0, 0), (896, .iconst 2, 897, 0, 0, 2, 0), (897, .iadd, 898, 0, 0, 0, 0), (898, .iaload, 899, 0, 0, 0, 0), (899, .invokevirtual 110, 902, 2, 0, 0, 0), (902, .if_icmp .eq 42, 905, 944, 0, 0, 0), (905, .iconst 0, 906, 0, 0, 0, 0), (906, .ireturn, 907, 0, 0, 0, 0), (907, .aload_n 1, 908, 1, 0, 0, 0), (908, .aload_n 0, 909, 0, 0, 0, 0), (909, .iload_n 3, 910, 3, 0, 0, 0), (910, .iconst 1, 911, 0, 0, 1, 0), (911, .iadd, 912, 0, 0, 0, 0), (912, .iaload, 913, 0, 0, 0, 0), (913, .invokevirtual 111, 916, 1, 0, 0, 0), (916, .aload_n 2, 917, 2, 0, 0, 0), (917, .aload_n 0, 918, 0, 0, 0, 0), (918, .iload_n 3, 919, 3, 0, 0, 0), (919, .iconst 1, 920, 0, 0, 1, 0), (920, .iadd, 921, 0, 0, 0, 0), (921, .iaload, 922, 0, 0, 0, 0), (922, .invokevirtual 114, 925, 1, 0, 0, 0), (925, .if_icmp .eq 19, 928, 944, 0, 0, 0), (928, .iconst 0, 929, 0, 0, 0, 0), (929, .ireturn, 930, 0, 0, 0, 0), (930, .aload_n 1, 931, 1, 0, 0, 0), (931, .invokevirtual 115, 934, 0, 0, 0, 0), (934, .aload_n 2, 935, 2, 0, 0, 0), (935, .invokevirtual 119, 938, 0, 0, 0, 0), (938, .lcmp, 939, 0, 0, 0, 0), (939, .ifCond .eq 5, 942, 944, 0, 0, 0), (942, .iconst 0, 943, 0, 0, 0, 0), (943, .ireturn, 944, 0, 0, 0, 0), (944, .iinc 3 6, 947, 3, 0, 6, 0), (947, .goto (-929), 18, 0, 0, 0, 0), (950, .iconst 1, 951, 0, 0, 1, 0), (951, .ireturn, 952, 0, 0, 0, 0)]
abbrev mL_law : MD := (yL_law, cL_law, 4, (some .boolean), room_1, tbL_law)
end
section
/-! a judgement over virtual addresses: the machine's walk with the heap's new cells as a list -/
def ng {α : Type} : List α → Nat → Option α
  | [], _ => none
  | a :: _, 0 => some a
  | _ :: l, n + 1 => ng l n
theorem ng_eq {α : Type} (l : List α) (n : Nat) : ng l n = l[n]? := by
  induction l generalizing n with
  | nil => simp [ng]
  | cons a l ih => cases n with
    | zero => simp [ng]
    | succ n => simp [ng, ih]
def lk : List (Nat × En) → Nat → Option En
  | [], _ => none
  | q :: l, n => if q.1 = n then some q.2 else lk l n
theorem lk_mem {t : List (Nat × En)} {n : Nat} {E : En} (h : lk t n = some E) : (n, E) ∈ t := by
  induction t with
  | nil => cases h
  | cons q l ih =>
    unfold lk at h
    by_cases hq : q.1 = n
    · rw [if_pos hq] at h
      cases h
      subst hq
      exact List.mem_cons_self
    · rw [if_neg hq] at h
      exact List.mem_cons_of_mem _ (ih h)
abbrev mY (M : MD) : MethodName := M.1
abbrev mCode (M : MD) : ByteArray := M.2.1
abbrev mML (M : MD) : Nat := M.2.2.1
abbrev mRet (M : MD) : Option FieldType := M.2.2.2.1
abbrev mRm (M : MD) : Room := M.2.2.2.2.1
abbrev mTab (M : MD) : List (Nat × En) := M.2.2.2.2.2
/-- real addresses of virtual ones -/
def xa (b sz k : Nat) : Nat := if k = 1000000 then b else sz + k
def xv (b sz : Nat) : Value → Value
  | .ref k => .ref (xa b sz k)
  | v => v
theorem xv_cat (b sz : Nat) (v : Value) : (xv b sz v).category = v.category := by cases v <;> rfl
abbrev vR : Type := (Nat → Int32) ⊕ (Nat → Int64) ⊕ (Nat → UInt32) ⊕ (Nat → UInt64) ⊕ (Nat → Option Nat)
def xr (b sz : Nat) : vR → vR
  | .inr (.inr (.inr (.inr f))) => .inr (.inr (.inr (.inr (fun j => (f j).map (xa b sz)))))
  | x => x
def xe (b sz : Nat) (cA : Nat → ClassId) : va_E → va_E
  | .inl (t, n, r) => .inl (cA t, n, xr b sz r)
  | .inr (ci, fs) => .inr (ci, fs.map (xv b sz))
def xw (b sz : Nat) (cA : Nat → ClassId) (σ : List va_E) : va_W := σ.mapIdx (fun k e => (sz + k, xe b sz cA e))
theorem xw_get {b sz : Nat} {cA : Nat → ClassId} {σ : List va_E} {k : Nat} {e : va_E} (h : σ[k]? = some e) : (xw b sz cA σ)[k]? = some (sz + k, xe b sz cA e) := by
  simp [xw, List.getElem?_mapIdx, h]
theorem xw_set {b sz : Nat} {cA : Nat → ClassId} (σ : List va_E) (k : Nat) (e : va_E) : (xw b sz cA σ).set k (sz + k, xe b sz cA e) = xw b sz cA (σ.set k e) := by
  unfold xw
  apply List.ext_getElem?
  intro i
  simp only [List.getElem?_mapIdx, List.getElem?_set, List.length_mapIdx]
  by_cases hik : k = i
  · subst hik
    by_cases hl : k < σ.length <;> simp [hl]
  · simp [hik]
theorem xw_push {b sz : Nat} {cA : Nat → ClassId} (σ : List va_E) (e : va_E) : xw b sz cA (σ ++ [e]) = xw b sz cA σ ++ [(sz + σ.length, xe b sz cA e)] := by
  simp [xw, List.mapIdx_append]
theorem xw_D {b sz : Nat} {cA : Nat → ClassId} (σ : List va_E) : va_D (fun q => sz ≤ q) (xw b sz cA σ) := by
  have key : ∀ (k : Nat) (q : Nat × va_E), (xw b sz cA σ)[k]? = some q → q.1 = sz + k := by
    intro k q h
    simp only [xw, List.getElem?_mapIdx, Option.map_eq_some_iff] at h
    obtain ⟨e, -, rfl⟩ := h
    rfl
  refine ⟨fun i j p q hi hj h => ?_, fun k q h => ?_⟩
  · rw [key i p hi, key j q hj] at h
    omega
  · rw [key k q h]
    exact Nat.le_add_right _ _
theorem xw_len {b sz : Nat} {cA : Nat → ClassId} (σ : List va_E) : (xw b sz cA σ).length = σ.length := by simp [xw]
abbrev xT (cA : Nat → ClassId) : List (ClassId × FieldType) := [(cA 0, .int), (cA 1, .long), (cA 2, .object "SpeltRoutes$Expression")]
def isNest : Jvm.Cond → Bool
  | .methodLinkNest _ _ _ _ => true
  | .arrayOver (.object _) => true
  | _ => false
/-- the words of nest mates: not among the good ones, so they go along with the world -/
def xN (U : State) : Prop := ∀ w ∈ lw_tbl, isNest w = true → va_Nw w U
theorem xN_warm {s U : State} (hW : s.WarmedH U.vm) (h : xN s) : xN U := by
  intro w hw hn
  have h1 := h w hw hn
  cases w with
  | methodLinkNest a i x hh => exact va_Nw.warmM hW h1
  | arrayOver ty => cases ty with
    | object C => exact va_AO.moved hW.alike h1
    | _ => cases hn
  | _ => cases hn
/-- the words that go along with every contract -/
def xTbl : List Jvm.Cond := lw_tbl.filter goodWord
/-- a method's words -/
abbrev mWs (M : MD) : List Jvm.Cond := .code (mY M) (mCode M) (mML M) (mRet M) :: xTbl
/-- what is known of the classes -/
def xK (D : va_G) (cA : Nat → ClassId) (U : State) : Prop := va_K D vwCl (xT cA) U ∧ xN U
/-- the world: the classes, the cells, what has changed, where the heap ends -/
def XW (b sz : Nat) (cA : Nat → ClassId) (D : va_G) (σ : List va_E) (s : State) (H : Heap) (locs : List Loc) : Prop :=
  xK D cA s ∧ va_P D vwCl (xw b sz cA σ) H ∧ va_S (fun q => sz ≤ q) s.heap H locs ∧ H.size = sz + σ.length ∧ sz ≤ s.heap.size ∧ σ.length ≤ 1000000
/-- locals by their places -/
def hasL (b sz : Nat) (ls : Array Slot) (nL : Nat) (lv : List (Option Value)) : Prop :=
  ls.size = nL ∧ lv.length = nL ∧ lv_wf ls ∧ ∀ (k : Nat) (v : Value), lv[k]? = some (some v) → ls[k]? = some (.val (xv b sz v))
def hasK (b sz : Nat) (nL : Nat) (lv : List (Option Value)) : List (Nat × Value) :=
  (List.range nL).filterMap (fun k => (lv.getD k none).map (fun v => (k, xv b sz v)))
theorem hasL.kit {b sz : Nat} {ls : Array Slot} {nL : Nat} {lv : List (Option Value)} (h : hasL b sz ls nL lv) : lv_has ls nL (hasK b sz nL lv) := by
  refine ⟨h.1, h.2.2.1, fun q hq => ?_⟩
  obtain ⟨k, hk, hk2⟩ := List.mem_filterMap.mp hq
  cases hv : lv.getD k none with
  | none => rw [hv] at hk2; cases hk2
  | some v =>
    rw [hv] at hk2
    cases hk2
    refine h.2.2.2 k v ?_
    rw [List.getD_eq_getElem?_getD] at hv
    cases hg : lv[k]? with
    | none => rw [hg] at hv; cases hv
    | some w => rw [hg] at hv; exact congrArg some hv
theorem hasK_mem {b sz nL : Nat} {lv : List (Option Value)} (hl : lv.length = nL) {k : Nat} {v : Value} (h : lv[k]? = some (some v)) : (k, xv b sz v) ∈ hasK b sz nL lv := by
  refine List.mem_filterMap.mpr ⟨k, List.mem_range.mpr ?_, ?_⟩
  · rw [← hl]; exact (List.getElem?_eq_some_iff.mp h).1
  · rw [List.getD_eq_getElem?_getD, h]; rfl
/-- the place below isn't a value of two slots -/
def okSet (lv : List (Option Value)) : Nat → Bool
  | 0 => true
  | j + 1 => match ng lv j with
    | some (some (.long _)) => false
    | some (some (.double _)) => false
    | _ => true
theorem okSet_cat {lv : List (Option Value)} {j : Nat} {v : Value} (h : okSet lv (j + 1) = true) (hv : lv[j]? = some (some v)) : v.category ≠ 2 := by
  simp only [okSet, ng_eq, hv] at h
  cases v <;> simp_all [Value.category]
theorem hasL.set1 {b sz : Nat} {ls ls' : Array Slot} {nL i : Nat} {lv : List (Option Value)} {v : Value} (h : hasL b sz ls nL lv) (hi : i < nL) (ho : okSet lv i = true)
    (h' : lv_has ls' nL ((i, xv b sz v) :: (hasK b sz nL lv).filter (fun q => !(q.1 == i) && !(q.1 + 1 == i && q.2.category == 2)))) : hasL b sz ls' nL (lv.set i (some v)) := by
  refine ⟨h'.1, by rw [List.length_set]; exact h.2.1, h'.2.1, fun k w hk => ?_⟩
  rw [List.getElem?_set] at hk
  by_cases hik : i = k
  · subst hik
    rw [if_pos rfl, if_pos (by rw [h.2.1]; exact hi)] at hk
    cases hk
    exact h'.2.2 _ List.mem_cons_self
  · rw [if_neg hik] at hk
    refine h'.2.2 (k, xv b sz w) (List.mem_cons_of_mem _ (List.mem_filter.mpr ⟨hasK_mem h.2.1 hk, ?_⟩))
    have h1 : ¬ (k = i) := fun e => hik e.symm
    simp only [Bool.and_eq_true, Bool.not_eq_true', beq_eq_false_iff_ne, ne_eq, Bool.and_eq_false_iff, xv_cat]
    refine ⟨h1, ?_⟩
    by_cases hk1 : k + 1 = i
    · right
      subst hk1
      exact okSet_cat ho hk
    · left; exact hk1
theorem hasL.set2 {b sz : Nat} {ls ls' : Array Slot} {nL i : Nat} {lv : List (Option Value)} {v : Value} (h : hasL b sz ls nL lv) (hi : i + 1 < nL) (ho : okSet lv i = true)
    (h' : lv_has ls' nL ((i, xv b sz v) :: (hasK b sz nL lv).filter (fun q => !(q.1 == i) && (!(q.1 == i + 1) && !(q.1 + 1 == i && q.2.category == 2))))) : hasL b sz ls' nL ((lv.set i (some v)).set (i + 1) none) := by
  refine ⟨h'.1, by rw [List.length_set, List.length_set]; exact h.2.1, h'.2.1, fun k w hk => ?_⟩
  rw [List.getElem?_set] at hk
  by_cases hik1 : i + 1 = k
  · subst hik1
    rw [if_pos rfl] at hk
    split at hk
    · cases hk
    · cases hk
  · rw [if_neg hik1, List.getElem?_set] at hk
    by_cases hik : i = k
    · subst hik
      rw [if_pos rfl, if_pos (by rw [h.2.1]; omega)] at hk
      cases hk
      exact h'.2.2 _ List.mem_cons_self
    · rw [if_neg hik] at hk
      refine h'.2.2 (k, xv b sz w) (List.mem_cons_of_mem _ (List.mem_filter.mpr ⟨hasK_mem h.2.1 hk, ?_⟩))
      have h1 : ¬ (k = i) := fun e => hik e.symm
      have h2 : ¬ (k = i + 1) := fun e => hik1 e.symm
      simp only [Bool.and_eq_true, Bool.not_eq_true', beq_eq_false_iff_ne, ne_eq, Bool.and_eq_false_iff, xv_cat]
      refine ⟨h1, h2, ?_⟩
      by_cases hk1 : k + 1 = i
      · right
        subst hk1
        exact okSet_cat ho hk
      · left; exact hk1
/-- the length of an instruction that is used here -/
def iLen : Instr → Nat
  | .iload _ | .aload _ | .lload _ | .istore _ | .astore _ | .lstore _ | .bipush _ | .ldc _ | .newarray _ => 2
  | .sipush _ | .ldc_w _ | .ldc2_w _ | .iinc _ _ | .goto _ | .ifCond _ _ | .if_icmp _ _ | .getfield _ | .putfield _ | .invokevirtual _ | .invokestatic _ | .invokespecial _ | .new _ | .anewarray _ => 3
  | _ => 1
def flOk (own : String) (idx a b : Nat) : Bool := match vwCl[a]? with
  | some (C, T, N) => decide (b < N) && decide ((T b).1 = C) && decide (Jvm.Cond.fieldLink own idx C (T b).2.1 (T b).2.2.1 ∈ lw_tbl)
  | none => false
def enOk (M : MD) (pc : Nat) : En → Bool
  | (.tableswitch d lo hi os, nx, _, ln, _, _) => decide (decode (mCode M) pc = .ok (.tableswitch d lo hi os, ln))
  | (.lookupswitch d ps, nx, _, ln, _, _) => decide (decode (mCode M) pc = .ok (.lookupswitch d ps, ln)) && (ps.toList.zip (ps.toList.drop 1)).all (fun (a, next) => a.1 < next.1)
  | (i, nx, a, b, c, cl) => decide (decode (mCode M) pc = .ok (i, iLen i)) && (match i with
    | .goto off => decide ((pc : Int) + off = (nx : Int))
    | .ifCond _ off => decide ((pc : Int) + off = (a : Int)) && decide (nx = pc + 3)
    | .if_icmp _ off => decide ((pc : Int) + off = (a : Int)) && decide (nx = pc + 3)
    | _ => decide (nx = pc + iLen i)) && (match i with
    | .iconst n => decide (Int32.ofInt n = c)
    | .bipush n => decide ((Int8.ofInt n).toInt32 = c)
    | .sipush n => decide ((Int16.ofInt n).toInt32 = c)
    | .lconst n => decide (Int64.ofNat (n : Nat) = cl)
    | .ldc k => decide (Jvm.Cond.constant (mY M).cls k c ∈ lw_tbl)
    | .ldc_w k => decide (Jvm.Cond.constant (mY M).cls k c ∈ lw_tbl)
    | .ldc2_w k => decide (Jvm.Cond.constantLong (mY M).cls k cl ∈ lw_tbl)
    | .iload k => decide (k = a)
    | .aload k => decide (k = a)
    | .lload k => decide (k = a)
    | .iload_n k => decide ((k : Nat) = a)
    | .aload_n k => decide ((k : Nat) = a)
    | .lload_n k => decide ((k : Nat) = a)
    | .istore k => decide (k = a) && decide (a < mML M)
    | .astore k => decide (k = a) && decide (a < mML M)
    | .lstore k => decide (k = a) && decide (a + 1 < mML M)
    | .istore_n k => decide ((k : Nat) = a) && decide (a < mML M)
    | .astore_n k => decide ((k : Nat) = a) && decide (a < mML M)
    | .lstore_n k => decide ((k : Nat) = a) && decide (a + 1 < mML M)
    | .iinc k n => decide (k = a) && decide (a < mML M) && decide (Int32.ofInt n = c)
    | .getfield k => flOk (mY M).cls k a b
    | .putfield k => flOk (mY M).cls k a b
    | _ => true)
def mOk (M : MD) : Bool := (mTab M).all (fun q => enOk M q.1 q.2)
theorem mOk_at {M : MD} (h : mOk M = true) {pc : Nat} {E : En} (hl : lk (mTab M) pc = some E) : enOk M pc E = true := List.all_eq_true.mp h (pc, E) (lk_mem hl)
theorem xTbl_in {args : Array Value} {s : State} (h : ∀ w ∈ lw_tbl, w.before args s = true) : ∀ w ∈ xTbl, w.before args s = true := fun w hw => h w (List.mem_filter.mp hw).1
/-- what holds inside a method -/
def XC (p : Program) (s : State) (m : MethodId) (args : Array Value) (meth : Method) (c : Code) (M : MD) : Prop :=
  p.tables.exec = Jvm.exec ∧ c.code = mCode M ∧ meth.sig.returnType = mRet M ∧ c.maxLocals = mML M ∧ s.vm.findClass (mY M).cls = some m.cls ∧ (∀ w ∈ xTbl, w.before args s = true) ∧ meth.locks = false ∧ meth.name = (mY M).name
/-- the script, where there is one -/
def XX (X : Option (Nat × (Nat → Int32))) (b sz : Nat) (s : State) : Prop := match X with
  | none => True
  | some (L, xs) => va_X b L xs s s.heap ∧ b < s.heap.size ∧ b < sz
/-- an instruction that returns this value -/
def mRetAt (M : MD) (pc : Nat) : Option Value → Prop
  | none => decode (mCode M) pc = .ok (.return_, 1) ∧ mRet M = none
  | some (.int x) => decode (mCode M) pc = .ok (.ireturn, 1) ∧ ∃ ty, mRet M = some ty ∧ narrow ty (.int x) = .int x
  | some (.long _) => decode (mCode M) pc = .ok (.lreturn, 1) ∧ mRet M = some .long
  | _ => False
/-- THE JUDGEMENT: from here, with these locals, this stack, these cells, method M comes to its end with Q; bc cells of bs slots may still be made -/
def RJ (M : MD) (X : Option (Nat × (Nat → Int32))) (bc bs pc : Nat) (lv : List (Option Value)) (st : List Value) (σ : List va_E) (Q : Option Value → List va_E → Prop) : Prop :=
  ∀ (p : Program) (l : Launch) (e : Env) (s : State) (m : MethodId) (args : Array Value) (below : List Frame) (meth : Method) (c : Code) (H : Heap) (locs : List Loc) (cells slots : Nat) (Z : State → Prop) (b sz : Nat) (cA : Nat → ClassId) (D : va_G) (ls : Array Slot),
    mOk M = true → XC p s m args meth c M → XX X b sz s → XW b sz cA D σ s H locs → hasL b sz ls (mML M) lv → cells + bc = (mRm M).cells → slots + bs = (mRm M).slots → s.heap.size + cells = sz + σ.length →
    (∀ (v : Option Value) (σ' : List va_E) (H' : Heap) (locs' : List Loc) (pc' : Nat) (ls' : Array Slot), Q v σ' → XW b sz cA D σ' s H' locs' → mRetAt M pc' v →
      W p l e (mRm M) s m args below meth c H' locs' (mRm M).cells (mRm M).slots Z (F0 m pc' ls' (v.toList.map (xv b sz)))) →
    W p l e (mRm M) s m args below meth c H locs cells slots Z (F0 m pc ls (st.map (xv b sz)))
theorem RJ.mono {M : MD} {X : Option (Nat × (Nat → Int32))} {bc bs pc : Nat} {lv : List (Option Value)} {st : List Value} {σ : List va_E} {Q Q' : Option Value → List va_E → Prop} (hQ : ∀ v σ', Q v σ' → Q' v σ') (h : RJ M X bc bs pc lv st σ Q) : RJ M X bc bs pc lv st σ Q' :=
  fun p l e s m args below meth c H locs cells slots Z b sz cA D ls h1 h2 h3 h4 h5 h6 h7 h8 hE => h p l e s m args below meth c H locs cells slots Z b sz cA D ls h1 h2 h3 h4 h5 h6 h7 h8 (fun v σ' H' locs' pc' ls' hq => hE v σ' H' locs' pc' ls' (hQ v σ' hq))
end
section
/-! rows of the judgement: the instructions that touch no cell, by one computed step -/
section RjPure
variable {M : MD} {X : Option (Nat × (Nat → Int32))} {bc bs pc nx : Nat} {lv lv' : List (Option Value)} {st st' : List Value} {σ : List va_E} {Q : Option Value → List va_E → Prop}
theorem rj_of (h : ∀ (p : Program) (l : Launch) (e : Env) (s : State) (m : MethodId) (args : Array Value) (below : List Frame) (meth : Method) (c : Code) (H : Heap) (locs : List Loc) (cells slots : Nat) (Z : State → Prop) (b sz : Nat) (ls : Array Slot), mOk M = true → XC p s m args meth c M → hasL b sz ls (mML M) lv →
      (∀ ls', hasL b sz ls' (mML M) lv' → W p l e (mRm M) s m args below meth c H locs cells slots Z (F0 m nx ls' (st'.map (xv b sz)))) → W p l e (mRm M) s m args below meth c H locs cells slots Z (F0 m pc ls (st.map (xv b sz))))
    (k : RJ M X bc bs nx lv' st' σ Q) : RJ M X bc bs pc lv st σ Q :=
  fun p l e s m args below meth c H locs cells slots Z b sz cA D ls h1 h2 h3 h4 h5 h6 h7 h8 hE => h p l e s m args below meth c H locs cells slots Z b sz ls h1 h2 h5 (fun ls' hl => k p l e s m args below meth c H locs cells slots Z b sz cA D ls' h1 h2 h3 h4 hl h6 h7 h8 hE)
end RjPure
abbrev oP : Type := Option (List (Option Value) × List Value)
def st_li (lv : List (Option Value)) (st : List Value) (a : Nat) : oP := match ng lv a with
  | some (some (.int x)) => some (lv, .int x :: st)
  | _ => none
def st_ll (lv : List (Option Value)) (st : List Value) (a : Nat) : oP := match ng lv a with
  | some (some (.long x)) => some (lv, .long x :: st)
  | _ => none
def st_la (lv : List (Option Value)) (st : List Value) (a : Nat) : oP := match ng lv a with
  | some (some (.ref x)) => some (lv, .ref x :: st)
  | _ => none
def st_si (lv : List (Option Value)) (a : Nat) : List Value → oP
  | .int x :: st => match okSet lv a with
    | true => some (lv.set a (some (.int x)), st)
    | false => none
  | _ => none
def st_sa (lv : List (Option Value)) (a : Nat) : List Value → oP
  | .ref x :: st => match okSet lv a with
    | true => some (lv.set a (some (.ref x)), st)
    | false => none
  | _ => none
def st_sl (lv : List (Option Value)) (a : Nat) : List Value → oP
  | .long x :: st => match okSet lv a with
    | true => some ((lv.set a (some (.long x))).set (a + 1) none, st)
    | false => none
  | _ => none
def st_inc (lv : List (Option Value)) (st : List Value) (a : Nat) (c : Int32) : oP := match okSet lv a with
  | true => match ng lv a with
    | some (some (.int x)) => some (lv.set a (some (.int (x + c))), st)
    | _ => none
  | false => none
def st_ii (lv : List (Option Value)) (f : Int32 → Int32 → Int32) : List Value → oP
  | .int y :: .int x :: st => some (lv, .int (f x y) :: st)
  | _ => none
def st_jj (lv : List (Option Value)) (f : Int64 → Int64 → Int64) : List Value → oP
  | .long y :: .long x :: st => some (lv, .long (f x y) :: st)
  | _ => none
def st_ij (lv : List (Option Value)) (f : Int64 → Int32 → Int64) : List Value → oP
  | .int y :: .long x :: st => some (lv, .long (f x y) :: st)
  | _ => none
def st_cmp (lv : List (Option Value)) : List Value → oP
  | .long y :: .long x :: st => some (lv, .int (lg_cmp x y) :: st)
  | _ => none
def st_i2l (lv : List (Option Value)) : List Value → oP
  | .int x :: st => some (lv, .long x.toInt64 :: st)
  | _ => none
def st_l2i (lv : List (Option Value)) : List Value → oP
  | .long x :: st => some (lv, .int x.toInt32 :: st)
  | _ => none
def st_pop (lv : List (Option Value)) : List Value → oP
  | .int _ :: st => some (lv, st)
  | _ => none
def st_dup (lv : List (Option Value)) : List Value → oP
  | .int x :: st => some (lv, .int x :: .int x :: st)
  | .ref x :: st => some (lv, .ref x :: .ref x :: st)
  | _ => none
def st_dup2 (lv : List (Option Value)) : List Value → oP
  | .int x :: .ref y :: st => some (lv, .int x :: .ref y :: .int x :: .ref y :: st)
  | _ => none
/-- one step of an instruction that touches no cell -/
def stp (i : Instr) (a : Nat) (c : Int32) (cl : Int64) (lv : List (Option Value)) (st : List Value) : oP := match i with
  | .iconst _ => some (lv, .int c :: st)
  | .bipush _ => some (lv, .int c :: st)
  | .sipush _ => some (lv, .int c :: st)
  | .ldc _ => some (lv, .int c :: st)
  | .ldc_w _ => some (lv, .int c :: st)
  | .lconst _ => some (lv, .long cl :: st)
  | .ldc2_w _ => some (lv, .long cl :: st)
  | .iload _ => st_li lv st a
  | .iload_n _ => st_li lv st a
  | .lload _ => st_ll lv st a
  | .lload_n _ => st_ll lv st a
  | .aload _ => st_la lv st a
  | .aload_n _ => st_la lv st a
  | .istore _ => st_si lv a st
  | .istore_n _ => st_si lv a st
  | .astore _ => st_sa lv a st
  | .astore_n _ => st_sa lv a st
  | .lstore _ => st_sl lv a st
  | .lstore_n _ => st_sl lv a st
  | .iinc _ _ => st_inc lv st a c
  | .goto _ => some (lv, st)
  | .iadd => st_ii lv (fun x y => x + y) st
  | .isub => st_ii lv (fun x y => x - y) st
  | .imul => st_ii lv (fun x y => x * y) st
  | .iand => st_ii lv (fun x y => x &&& y) st
  | .ior => st_ii lv (fun x y => x ||| y) st
  | .ixor => st_ii lv (fun x y => x ^^^ y) st
  | .ishl => st_ii lv (fun x y => x <<< (y &&& 31)) st
  | .ishr => st_ii lv (fun x y => x >>> (y &&& 31)) st
  | .iushr => st_ii lv (fun x y => (x.toUInt32 >>> (y.toUInt32 &&& Int32.toUInt32 31)).toInt32) st
  | .lushr => st_ij lv (fun x y => (x.toUInt64 >>> (y.toInt64.toUInt64 &&& Int64.toUInt64 63)).toInt64) st
  | .lshl => st_ij lv (fun x y => x <<< (y.toInt64 &&& 63)) st
  | .ladd => st_jj lv (fun x y => x + y) st
  | .lmul => st_jj lv (fun x y => x * y) st
  | .lor => st_jj lv (fun x y => x ||| y) st
  | .lcmp => st_cmp lv st
  | .i2l => st_i2l lv st
  | .l2i => st_l2i lv st
  | .pop => st_pop lv st
  | .dup => st_dup lv st
  | .dup2 => st_dup2 lv st
  | _ => none
section StpSpec
variable {lv lv' : List (Option Value)} {st st' : List Value} {a : Nat} {c : Int32}
theorem st_li_e (h : st_li lv st a = some (lv', st')) : ∃ x, lv[a]? = some (some (.int x)) ∧ lv' = lv ∧ st' = .int x :: st := by
  unfold st_li at h
  split at h
  · rename_i hh; cases h; rw [ng_eq] at hh; exact ⟨_, hh, rfl, rfl⟩
  · cases h
theorem st_ll_e (h : st_ll lv st a = some (lv', st')) : ∃ x, lv[a]? = some (some (.long x)) ∧ lv' = lv ∧ st' = .long x :: st := by
  unfold st_ll at h
  split at h
  · rename_i hh; cases h; rw [ng_eq] at hh; exact ⟨_, hh, rfl, rfl⟩
  · cases h
theorem st_la_e (h : st_la lv st a = some (lv', st')) : ∃ x, lv[a]? = some (some (.ref x)) ∧ lv' = lv ∧ st' = .ref x :: st := by
  unfold st_la at h
  split at h
  · rename_i hh; cases h; rw [ng_eq] at hh; exact ⟨_, hh, rfl, rfl⟩
  · cases h
theorem st_si_e (h : st_si lv a st = some (lv', st')) : ∃ x, st = .int x :: st' ∧ okSet lv a = true ∧ lv' = lv.set a (some (.int x)) := by
  unfold st_si at h
  split at h
  · split at h
    · rename_i hh; cases h; exact ⟨_, rfl, hh, rfl⟩
    · cases h
  · cases h
theorem st_sa_e (h : st_sa lv a st = some (lv', st')) : ∃ x, st = .ref x :: st' ∧ okSet lv a = true ∧ lv' = lv.set a (some (.ref x)) := by
  unfold st_sa at h
  split at h
  · split at h
    · rename_i hh; cases h; exact ⟨_, rfl, hh, rfl⟩
    · cases h
  · cases h
theorem st_sl_e (h : st_sl lv a st = some (lv', st')) : ∃ x, st = .long x :: st' ∧ okSet lv a = true ∧ lv' = (lv.set a (some (.long x))).set (a + 1) none := by
  unfold st_sl at h
  split at h
  · split at h
    · rename_i hh; cases h; exact ⟨_, rfl, hh, rfl⟩
    · cases h
  · cases h
theorem st_inc_e (h : st_inc lv st a c = some (lv', st')) : ∃ x, lv[a]? = some (some (.int x)) ∧ okSet lv a = true ∧ lv' = lv.set a (some (.int (x + c))) ∧ st' = st := by
  unfold st_inc at h
  split at h
  · split at h
    · rename_i ho _ _ hh; cases h; rw [ng_eq] at hh; exact ⟨_, hh, ho, rfl, rfl⟩
    · cases h
  · cases h
theorem st_ii_e {f : Int32 → Int32 → Int32} (h : st_ii lv f st = some (lv', st')) : ∃ x y r, st = .int y :: .int x :: r ∧ lv' = lv ∧ st' = .int (f x y) :: r := by
  unfold st_ii at h
  split at h
  · cases h; exact ⟨_, _, _, rfl, rfl, rfl⟩
  · cases h
theorem st_jj_e {f : Int64 → Int64 → Int64} (h : st_jj lv f st = some (lv', st')) : ∃ x y r, st = .long y :: .long x :: r ∧ lv' = lv ∧ st' = .long (f x y) :: r := by
  unfold st_jj at h
  split at h
  · cases h; exact ⟨_, _, _, rfl, rfl, rfl⟩
  · cases h
theorem st_ij_e {f : Int64 → Int32 → Int64} (h : st_ij lv f st = some (lv', st')) : ∃ x y r, st = .int y :: .long x :: r ∧ lv' = lv ∧ st' = .long (f x y) :: r := by
  unfold st_ij at h
  split at h
  · cases h; exact ⟨_, _, _, rfl, rfl, rfl⟩
  · cases h
theorem st_cmp_e (h : st_cmp lv st = some (lv', st')) : ∃ x y r, st = .long y :: .long x :: r ∧ lv' = lv ∧ st' = .int (lg_cmp x y) :: r := by
  unfold st_cmp at h
  split at h
  · cases h; exact ⟨_, _, _, rfl, rfl, rfl⟩
  · cases h
theorem st_i2l_e (h : st_i2l lv st = some (lv', st')) : ∃ x r, st = .int x :: r ∧ lv' = lv ∧ st' = .long x.toInt64 :: r := by
  unfold st_i2l at h
  split at h
  · cases h; exact ⟨_, _, rfl, rfl, rfl⟩
  · cases h
theorem st_l2i_e (h : st_l2i lv st = some (lv', st')) : ∃ x r, st = .long x :: r ∧ lv' = lv ∧ st' = .int x.toInt32 :: r := by
  unfold st_l2i at h
  split at h
  · cases h; exact ⟨_, _, rfl, rfl, rfl⟩
  · cases h
theorem st_pop_e (h : st_pop lv st = some (lv', st')) : ∃ x, st = .int x :: st' ∧ lv' = lv := by
  unfold st_pop at h
  split at h
  · cases h; exact ⟨_, rfl, rfl⟩
  · cases h
theorem st_dup_e (h : st_dup lv st = some (lv', st')) : (∃ x r, st = .int x :: r ∧ lv' = lv ∧ st' = .int x :: .int x :: r) ∨ (∃ x r, st = .ref x :: r ∧ lv' = lv ∧ st' = .ref x :: .ref x :: r) := by
  unfold st_dup at h
  split at h
  · cases h; exact Or.inl ⟨_, _, rfl, rfl, rfl⟩
  · cases h; exact Or.inr ⟨_, _, rfl, rfl, rfl⟩
  · cases h
theorem st_dup2_e (h : st_dup2 lv st = some (lv', st')) : ∃ x y r, st = .int x :: .ref y :: r ∧ lv' = lv ∧ st' = .int x :: .ref y :: .int x :: .ref y :: r := by
  unfold st_dup2 at h
  split at h
  · cases h; exact ⟨_, _, _, rfl, rfl, rfl⟩
  · cases h
end StpSpec
end
section
/-! each instruction that touches no cell, by program; then the step that stp computes -/
section RjSteps
variable {M : MD} {X : Option (Nat × (Nat → Int32))} {bc bs pc nx a b : Nat} {c : Int32} {cl : Int64} {lv lv' : List (Option Value)} {st st' : List Value} {σ : List va_E} {Q : Option Value → List va_E → Prop}
theorem rs_iconst {n : Int} (hq : lk (mTab M) pc = some (.iconst n, nx, a, b, c, cl)) (k : RJ M X bc bs nx lv (.int c :: st) σ Q) : RJ M X bc bs pc lv (st) σ Q := by
  refine rj_of (fun p l e s m args below meth c H locs cells slots Z b sz ls h1 h2 hl kk => ?_) k
  have hk := mOk_at h1 hq
  simp only [enOk, iLen, Bool.and_true, Bool.and_eq_true] at hk
  obtain ⟨⟨hd, hn9⟩, hc⟩ := hk
  have hd := of_decide_eq_true hd
  have hn9 := of_decide_eq_true hn9
  have hc := of_decide_eq_true hc
  subst hn9
  exact lv_iconst h2.1 h2.2.1 hd hc (kk ls hl)
theorem rs_bipush {n : Int} (hq : lk (mTab M) pc = some (.bipush n, nx, a, b, c, cl)) (k : RJ M X bc bs nx lv (.int c :: st) σ Q) : RJ M X bc bs pc lv (st) σ Q := by
  refine rj_of (fun p l e s m args below meth c H locs cells slots Z b sz ls h1 h2 hl kk => ?_) k
  have hk := mOk_at h1 hq
  simp only [enOk, iLen, Bool.and_true, Bool.and_eq_true] at hk
  obtain ⟨⟨hd, hn9⟩, hc⟩ := hk
  have hd := of_decide_eq_true hd
  have hn9 := of_decide_eq_true hn9
  have hc := of_decide_eq_true hc
  subst hn9
  exact lv_bipush h2.1 h2.2.1 hd hc (kk ls hl)
theorem rs_sipush {n : Int} (hq : lk (mTab M) pc = some (.sipush n, nx, a, b, c, cl)) (k : RJ M X bc bs nx lv (.int c :: st) σ Q) : RJ M X bc bs pc lv (st) σ Q := by
  refine rj_of (fun p l e s m args below meth c H locs cells slots Z b sz ls h1 h2 hl kk => ?_) k
  have hk := mOk_at h1 hq
  simp only [enOk, iLen, Bool.and_true, Bool.and_eq_true] at hk
  obtain ⟨⟨hd, hn9⟩, hc⟩ := hk
  have hd := of_decide_eq_true hd
  have hn9 := of_decide_eq_true hn9
  have hc := of_decide_eq_true hc
  subst hn9
  exact lv_sipush h2.1 h2.2.1 hd hc (kk ls hl)
theorem rs_lconst {n : Fin 2} (hq : lk (mTab M) pc = some (.lconst n, nx, a, b, c, cl)) (k : RJ M X bc bs nx lv (.long cl :: st) σ Q) : RJ M X bc bs pc lv (st) σ Q := by
  refine rj_of (fun p l e s m args below meth c H locs cells slots Z b sz ls h1 h2 hl kk => ?_) k
  have hk := mOk_at h1 hq
  simp only [enOk, iLen, Bool.and_true, Bool.and_eq_true] at hk
  obtain ⟨⟨hd, hn9⟩, hc⟩ := hk
  have hd := of_decide_eq_true hd
  have hn9 := of_decide_eq_true hn9
  have hc := of_decide_eq_true hc
  subst hn9
  exact lv_lconst h2.1 h2.2.1 hd hc (kk ls hl)
theorem rs_ldc {n : Nat} (hq : lk (mTab M) pc = some (.ldc n, nx, a, b, c, cl)) (k : RJ M X bc bs nx lv (.int c :: st) σ Q) : RJ M X bc bs pc lv (st) σ Q := by
  refine rj_of (fun p l e s m args below meth c H locs cells slots Z b sz ls h1 h2 hl kk => ?_) k
  have hk := mOk_at h1 hq
  simp only [enOk, iLen, Bool.and_true, Bool.and_eq_true] at hk
  obtain ⟨⟨hd, hn9⟩, hc⟩ := hk
  have hd := of_decide_eq_true hd
  have hn9 := of_decide_eq_true hn9
  have hc := of_decide_eq_true hc
  subst hn9
  exact lv_ldc h2.1 h2.2.1 h2.2.2.2.2.1 (h2.2.2.2.2.2.1 _ (List.mem_filter.mpr ⟨hc, rfl⟩)) hd (kk ls hl)
theorem rs_ldcw {n : Nat} (hq : lk (mTab M) pc = some (.ldc_w n, nx, a, b, c, cl)) (k : RJ M X bc bs nx lv (.int c :: st) σ Q) : RJ M X bc bs pc lv (st) σ Q := by
  refine rj_of (fun p l e s m args below meth c H locs cells slots Z b sz ls h1 h2 hl kk => ?_) k
  have hk := mOk_at h1 hq
  simp only [enOk, iLen, Bool.and_true, Bool.and_eq_true] at hk
  obtain ⟨⟨hd, hn9⟩, hc⟩ := hk
  have hd := of_decide_eq_true hd
  have hn9 := of_decide_eq_true hn9
  have hc := of_decide_eq_true hc
  subst hn9
  exact lv_ldcw h2.1 h2.2.1 h2.2.2.2.2.1 (h2.2.2.2.2.2.1 _ (List.mem_filter.mpr ⟨hc, rfl⟩)) hd (kk ls hl)
theorem rs_ldc2 {n : Nat} (hq : lk (mTab M) pc = some (.ldc2_w n, nx, a, b, c, cl)) (k : RJ M X bc bs nx lv (.long cl :: st) σ Q) : RJ M X bc bs pc lv (st) σ Q := by
  refine rj_of (fun p l e s m args below meth c H locs cells slots Z b sz ls h1 h2 hl kk => ?_) k
  have hk := mOk_at h1 hq
  simp only [enOk, iLen, Bool.and_true, Bool.and_eq_true] at hk
  obtain ⟨⟨hd, hn9⟩, hc⟩ := hk
  have hd := of_decide_eq_true hd
  have hn9 := of_decide_eq_true hn9
  have hc := of_decide_eq_true hc
  subst hn9
  exact lv_ldc2 h2.1 h2.2.1 h2.2.2.2.2.1 (h2.2.2.2.2.2.1 _ (List.mem_filter.mpr ⟨hc, rfl⟩)) hd (kk ls hl)
theorem rs_iload {n : Nat} {x : Int32} (hq : lk (mTab M) pc = some (.iload n, nx, a, b, c, cl)) (hx : lv[a]? = some (some (.int x))) (k : RJ M X bc bs nx lv (.int x :: st) σ Q) : RJ M X bc bs pc lv (st) σ Q := by
  refine rj_of (fun p l e s m args below meth c H locs cells slots Z b sz ls h1 h2 hl kk => ?_) k
  have hk := mOk_at h1 hq
  simp only [enOk, iLen, Bool.and_true, Bool.and_eq_true] at hk
  obtain ⟨⟨hd, hn9⟩, hc⟩ := hk
  have hd := of_decide_eq_true hd
  have hn9 := of_decide_eq_true hn9
  have hc := of_decide_eq_true hc
  subst hn9
  subst hc
  exact lv_iload h2.1 h2.2.1 hd (hl.2.2.2 _ _ hx) (kk ls hl)
theorem rs_iload_n {n : Fin 4} {x : Int32} (hq : lk (mTab M) pc = some (.iload_n n, nx, a, b, c, cl)) (hx : lv[a]? = some (some (.int x))) (k : RJ M X bc bs nx lv (.int x :: st) σ Q) : RJ M X bc bs pc lv (st) σ Q := by
  refine rj_of (fun p l e s m args below meth c H locs cells slots Z b sz ls h1 h2 hl kk => ?_) k
  have hk := mOk_at h1 hq
  simp only [enOk, iLen, Bool.and_true, Bool.and_eq_true] at hk
  obtain ⟨⟨hd, hn9⟩, hc⟩ := hk
  have hd := of_decide_eq_true hd
  have hn9 := of_decide_eq_true hn9
  have hc := of_decide_eq_true hc
  subst hn9
  exact lv_iload_n h2.1 h2.2.1 hd hc (hl.2.2.2 _ _ hx) (kk ls hl)
theorem rs_lload {n : Nat} {x : Int64} (hq : lk (mTab M) pc = some (.lload n, nx, a, b, c, cl)) (hx : lv[a]? = some (some (.long x))) (k : RJ M X bc bs nx lv (.long x :: st) σ Q) : RJ M X bc bs pc lv (st) σ Q := by
  refine rj_of (fun p l e s m args below meth c H locs cells slots Z b sz ls h1 h2 hl kk => ?_) k
  have hk := mOk_at h1 hq
  simp only [enOk, iLen, Bool.and_true, Bool.and_eq_true] at hk
  obtain ⟨⟨hd, hn9⟩, hc⟩ := hk
  have hd := of_decide_eq_true hd
  have hn9 := of_decide_eq_true hn9
  have hc := of_decide_eq_true hc
  subst hn9
  subst hc
  exact lv_lload h2.1 h2.2.1 hd (hl.2.2.2 _ _ hx) (kk ls hl)
theorem rs_lload_n {n : Fin 4} {x : Int64} (hq : lk (mTab M) pc = some (.lload_n n, nx, a, b, c, cl)) (hx : lv[a]? = some (some (.long x))) (k : RJ M X bc bs nx lv (.long x :: st) σ Q) : RJ M X bc bs pc lv (st) σ Q := by
  refine rj_of (fun p l e s m args below meth c H locs cells slots Z b sz ls h1 h2 hl kk => ?_) k
  have hk := mOk_at h1 hq
  simp only [enOk, iLen, Bool.and_true, Bool.and_eq_true] at hk
  obtain ⟨⟨hd, hn9⟩, hc⟩ := hk
  have hd := of_decide_eq_true hd
  have hn9 := of_decide_eq_true hn9
  have hc := of_decide_eq_true hc
  subst hn9
  exact lv_lload_n h2.1 h2.2.1 hd hc (hl.2.2.2 _ _ hx) (kk ls hl)
theorem rs_aload {n : Nat} {x : Nat} (hq : lk (mTab M) pc = some (.aload n, nx, a, b, c, cl)) (hx : lv[a]? = some (some (.ref x))) (k : RJ M X bc bs nx lv (.ref x :: st) σ Q) : RJ M X bc bs pc lv (st) σ Q := by
  refine rj_of (fun p l e s m args below meth c H locs cells slots Z b sz ls h1 h2 hl kk => ?_) k
  have hk := mOk_at h1 hq
  simp only [enOk, iLen, Bool.and_true, Bool.and_eq_true] at hk
  obtain ⟨⟨hd, hn9⟩, hc⟩ := hk
  have hd := of_decide_eq_true hd
  have hn9 := of_decide_eq_true hn9
  have hc := of_decide_eq_true hc
  subst hn9
  subst hc
  exact lv_aload h2.1 h2.2.1 hd (hl.2.2.2 _ _ hx) (kk ls hl)
theorem rs_aload_n {n : Fin 4} {x : Nat} (hq : lk (mTab M) pc = some (.aload_n n, nx, a, b, c, cl)) (hx : lv[a]? = some (some (.ref x))) (k : RJ M X bc bs nx lv (.ref x :: st) σ Q) : RJ M X bc bs pc lv (st) σ Q := by
  refine rj_of (fun p l e s m args below meth c H locs cells slots Z b sz ls h1 h2 hl kk => ?_) k
  have hk := mOk_at h1 hq
  simp only [enOk, iLen, Bool.and_true, Bool.and_eq_true] at hk
  obtain ⟨⟨hd, hn9⟩, hc⟩ := hk
  have hd := of_decide_eq_true hd
  have hn9 := of_decide_eq_true hn9
  have hc := of_decide_eq_true hc
  subst hn9
  exact lv_aload_n h2.1 h2.2.1 hd hc (hl.2.2.2 _ _ hx) (kk ls hl)
theorem rs_istore {n : Nat} {x : Int32} (hq : lk (mTab M) pc = some (.istore n, nx, a, b, c, cl)) (ho : okSet lv a = true) (k : RJ M X bc bs nx (lv.set a (some (.int x))) (st) σ Q) : RJ M X bc bs pc lv (.int x :: st) σ Q := by
  refine rj_of (fun p l e s m args below meth c H locs cells slots Z b sz ls h1 h2 hl kk => ?_) k
  have hk := mOk_at h1 hq
  simp only [enOk, iLen, Bool.and_true, Bool.and_eq_true] at hk
  obtain ⟨⟨hd, hn9⟩, hc, hn⟩ := hk
  have hd := of_decide_eq_true hd
  have hn9 := of_decide_eq_true hn9
  have hc := of_decide_eq_true hc
  have hn := of_decide_eq_true hn
  subst hn9
  subst hc
  exact lv_istore h2.1 h2.2.1 hd hl.kit hn rfl (fun ls' h' => kk ls' (hl.set1 (v := .int x) hn ho h'))
theorem rs_istore_n {n : Fin 4} {x : Int32} (hq : lk (mTab M) pc = some (.istore_n n, nx, a, b, c, cl)) (ho : okSet lv a = true) (k : RJ M X bc bs nx (lv.set a (some (.int x))) (st) σ Q) : RJ M X bc bs pc lv (.int x :: st) σ Q := by
  refine rj_of (fun p l e s m args below meth c H locs cells slots Z b sz ls h1 h2 hl kk => ?_) k
  have hk := mOk_at h1 hq
  simp only [enOk, iLen, Bool.and_true, Bool.and_eq_true] at hk
  obtain ⟨⟨hd, hn9⟩, hc, hn⟩ := hk
  have hd := of_decide_eq_true hd
  have hn9 := of_decide_eq_true hn9
  have hc := of_decide_eq_true hc
  have hn := of_decide_eq_true hn
  subst hn9
  exact lv_istore_n h2.1 h2.2.1 hd hc hl.kit hn rfl (fun ls' h' => kk ls' (hl.set1 (v := .int x) hn ho h'))
theorem rs_lstore {n : Nat} {x : Int64} (hq : lk (mTab M) pc = some (.lstore n, nx, a, b, c, cl)) (ho : okSet lv a = true) (k : RJ M X bc bs nx ((lv.set a (some (.long x))).set (a + 1) none) (st) σ Q) : RJ M X bc bs pc lv (.long x :: st) σ Q := by
  refine rj_of (fun p l e s m args below meth c H locs cells slots Z b sz ls h1 h2 hl kk => ?_) k
  have hk := mOk_at h1 hq
  simp only [enOk, iLen, Bool.and_true, Bool.and_eq_true] at hk
  obtain ⟨⟨hd, hn9⟩, hc, hn⟩ := hk
  have hd := of_decide_eq_true hd
  have hn9 := of_decide_eq_true hn9
  have hc := of_decide_eq_true hc
  have hn := of_decide_eq_true hn
  subst hn9
  subst hc
  exact lv_lstore h2.1 h2.2.1 hd hl.kit hn rfl (fun ls' h' => kk ls' (hl.set2 (v := .long x) hn ho h'))
theorem rs_lstore_n {n : Fin 4} {x : Int64} (hq : lk (mTab M) pc = some (.lstore_n n, nx, a, b, c, cl)) (ho : okSet lv a = true) (k : RJ M X bc bs nx ((lv.set a (some (.long x))).set (a + 1) none) (st) σ Q) : RJ M X bc bs pc lv (.long x :: st) σ Q := by
  refine rj_of (fun p l e s m args below meth c H locs cells slots Z b sz ls h1 h2 hl kk => ?_) k
  have hk := mOk_at h1 hq
  simp only [enOk, iLen, Bool.and_true, Bool.and_eq_true] at hk
  obtain ⟨⟨hd, hn9⟩, hc, hn⟩ := hk
  have hd := of_decide_eq_true hd
  have hn9 := of_decide_eq_true hn9
  have hc := of_decide_eq_true hc
  have hn := of_decide_eq_true hn
  subst hn9
  exact lv_lstore_n h2.1 h2.2.1 hd hc hl.kit hn rfl (fun ls' h' => kk ls' (hl.set2 (v := .long x) hn ho h'))
theorem rs_astore {n : Nat} {x : Nat} (hq : lk (mTab M) pc = some (.astore n, nx, a, b, c, cl)) (ho : okSet lv a = true) (k : RJ M X bc bs nx (lv.set a (some (.ref x))) (st) σ Q) : RJ M X bc bs pc lv (.ref x :: st) σ Q := by
  refine rj_of (fun p l e s m args below meth c H locs cells slots Z b sz ls h1 h2 hl kk => ?_) k
  have hk := mOk_at h1 hq
  simp only [enOk, iLen, Bool.and_true, Bool.and_eq_true] at hk
  obtain ⟨⟨hd, hn9⟩, hc, hn⟩ := hk
  have hd := of_decide_eq_true hd
  have hn9 := of_decide_eq_true hn9
  have hc := of_decide_eq_true hc
  have hn := of_decide_eq_true hn
  subst hn9
  subst hc
  exact lv_astore h2.1 h2.2.1 hd hl.kit hn rfl (fun ls' h' => kk ls' (hl.set1 (v := .ref x) hn ho h'))
theorem rs_astore_n {n : Fin 4} {x : Nat} (hq : lk (mTab M) pc = some (.astore_n n, nx, a, b, c, cl)) (ho : okSet lv a = true) (k : RJ M X bc bs nx (lv.set a (some (.ref x))) (st) σ Q) : RJ M X bc bs pc lv (.ref x :: st) σ Q := by
  refine rj_of (fun p l e s m args below meth c H locs cells slots Z b sz ls h1 h2 hl kk => ?_) k
  have hk := mOk_at h1 hq
  simp only [enOk, iLen, Bool.and_true, Bool.and_eq_true] at hk
  obtain ⟨⟨hd, hn9⟩, hc, hn⟩ := hk
  have hd := of_decide_eq_true hd
  have hn9 := of_decide_eq_true hn9
  have hc := of_decide_eq_true hc
  have hn := of_decide_eq_true hn
  subst hn9
  exact lv_astore_n h2.1 h2.2.1 hd hc hl.kit hn rfl (fun ls' h' => kk ls' (hl.set1 (v := .ref x) hn ho h'))
theorem rs_iinc {n : Nat} {d : Int} {x : Int32} (hq : lk (mTab M) pc = some (.iinc n d, nx, a, b, c, cl)) (ho : okSet lv a = true) (hx : lv[a]? = some (some (.int x))) (k : RJ M X bc bs nx (lv.set a (some (.int (x + c)))) (st) σ Q) : RJ M X bc bs pc lv (st) σ Q := by
  refine rj_of (fun p l e s m args below meth c H locs cells slots Z b sz ls h1 h2 hl kk => ?_) k
  have hk := mOk_at h1 hq
  simp only [enOk, iLen, Bool.and_true, Bool.and_eq_true] at hk
  obtain ⟨⟨hd, hn9⟩, ⟨ha, hn⟩, hc⟩ := hk
  have hd := of_decide_eq_true hd
  have hn9 := of_decide_eq_true hn9
  have hc := of_decide_eq_true hc
  have hn := of_decide_eq_true hn
  have ha := of_decide_eq_true ha
  subst hn9
  subst ha
  obtain ⟨i, hi⟩ := List.getElem?_of_mem (hasK_mem (b := b) (sz := sz) hl.2.1 hx)
  exact lv_iinc h2.1 h2.2.1 hd hl.kit hi (by rw [hc]) hn rfl (fun ls' h' => kk ls' (hl.set1 (v := .int (x + _)) hn ho h'))
theorem rs_goto {n : Int} (hq : lk (mTab M) pc = some (.goto n, nx, a, b, c, cl)) (k : RJ M X bc bs nx lv st σ Q) : RJ M X bc bs pc lv st σ Q := by
  refine rj_of (fun p l e s m args below meth c H locs cells slots Z b sz ls h1 h2 hl kk => ?_) k
  have hk := mOk_at h1 hq
  simp only [enOk, iLen, Bool.and_true, Bool.and_eq_true] at hk
  exact lv_goto h2.1 h2.2.1 (of_decide_eq_true hk.1) (of_decide_eq_true hk.2) (kk ls hl)
theorem rs_iadd {x y : Int32} (hq : lk (mTab M) pc = some (.iadd, nx, a, b, c, cl)) (k : RJ M X bc bs nx lv (.int (x + y) :: st) σ Q) : RJ M X bc bs pc lv (.int y :: .int x :: st) σ Q := by
  refine rj_of (fun p l e s m args below meth c H locs cells slots Z b sz ls h1 h2 hl kk => ?_) k
  have hk := mOk_at h1 hq
  simp only [enOk, iLen, Bool.and_true, Bool.and_eq_true] at hk
  obtain ⟨hd, hn9⟩ := hk
  have hd := of_decide_eq_true hd
  have hn9 := of_decide_eq_true hn9
  subst hn9
  exact lv_iadd h2.1 h2.2.1 hd (kk ls hl)
theorem rs_isub {x y : Int32} (hq : lk (mTab M) pc = some (.isub, nx, a, b, c, cl)) (k : RJ M X bc bs nx lv (.int (x - y) :: st) σ Q) : RJ M X bc bs pc lv (.int y :: .int x :: st) σ Q := by
  refine rj_of (fun p l e s m args below meth c H locs cells slots Z b sz ls h1 h2 hl kk => ?_) k
  have hk := mOk_at h1 hq
  simp only [enOk, iLen, Bool.and_true, Bool.and_eq_true] at hk
  obtain ⟨hd, hn9⟩ := hk
  have hd := of_decide_eq_true hd
  have hn9 := of_decide_eq_true hn9
  subst hn9
  exact lv_isub h2.1 h2.2.1 hd (kk ls hl)
theorem rs_imul {x y : Int32} (hq : lk (mTab M) pc = some (.imul, nx, a, b, c, cl)) (k : RJ M X bc bs nx lv (.int (x * y) :: st) σ Q) : RJ M X bc bs pc lv (.int y :: .int x :: st) σ Q := by
  refine rj_of (fun p l e s m args below meth c H locs cells slots Z b sz ls h1 h2 hl kk => ?_) k
  have hk := mOk_at h1 hq
  simp only [enOk, iLen, Bool.and_true, Bool.and_eq_true] at hk
  obtain ⟨hd, hn9⟩ := hk
  have hd := of_decide_eq_true hd
  have hn9 := of_decide_eq_true hn9
  subst hn9
  exact lv_imul h2.1 h2.2.1 hd (kk ls hl)
theorem rs_iand {x y : Int32} (hq : lk (mTab M) pc = some (.iand, nx, a, b, c, cl)) (k : RJ M X bc bs nx lv (.int (x &&& y) :: st) σ Q) : RJ M X bc bs pc lv (.int y :: .int x :: st) σ Q := by
  refine rj_of (fun p l e s m args below meth c H locs cells slots Z b sz ls h1 h2 hl kk => ?_) k
  have hk := mOk_at h1 hq
  simp only [enOk, iLen, Bool.and_true, Bool.and_eq_true] at hk
  obtain ⟨hd, hn9⟩ := hk
  have hd := of_decide_eq_true hd
  have hn9 := of_decide_eq_true hn9
  subst hn9
  exact lv_iand h2.1 h2.2.1 hd (kk ls hl)
theorem rs_ior {x y : Int32} (hq : lk (mTab M) pc = some (.ior, nx, a, b, c, cl)) (k : RJ M X bc bs nx lv (.int (x ||| y) :: st) σ Q) : RJ M X bc bs pc lv (.int y :: .int x :: st) σ Q := by
  refine rj_of (fun p l e s m args below meth c H locs cells slots Z b sz ls h1 h2 hl kk => ?_) k
  have hk := mOk_at h1 hq
  simp only [enOk, iLen, Bool.and_true, Bool.and_eq_true] at hk
  obtain ⟨hd, hn9⟩ := hk
  have hd := of_decide_eq_true hd
  have hn9 := of_decide_eq_true hn9
  subst hn9
  exact lv_ior h2.1 h2.2.1 hd (kk ls hl)
theorem rs_ixor {x y : Int32} (hq : lk (mTab M) pc = some (.ixor, nx, a, b, c, cl)) (k : RJ M X bc bs nx lv (.int (x ^^^ y) :: st) σ Q) : RJ M X bc bs pc lv (.int y :: .int x :: st) σ Q := by
  refine rj_of (fun p l e s m args below meth c H locs cells slots Z b sz ls h1 h2 hl kk => ?_) k
  have hk := mOk_at h1 hq
  simp only [enOk, iLen, Bool.and_true, Bool.and_eq_true] at hk
  obtain ⟨hd, hn9⟩ := hk
  have hd := of_decide_eq_true hd
  have hn9 := of_decide_eq_true hn9
  subst hn9
  exact lv_ixor h2.1 h2.2.1 hd (kk ls hl)
theorem rs_ishl {x y : Int32} (hq : lk (mTab M) pc = some (.ishl, nx, a, b, c, cl)) (k : RJ M X bc bs nx lv (.int (x <<< (y &&& 31)) :: st) σ Q) : RJ M X bc bs pc lv (.int y :: .int x :: st) σ Q := by
  refine rj_of (fun p l e s m args below meth c H locs cells slots Z b sz ls h1 h2 hl kk => ?_) k
  have hk := mOk_at h1 hq
  simp only [enOk, iLen, Bool.and_true, Bool.and_eq_true] at hk
  obtain ⟨hd, hn9⟩ := hk
  have hd := of_decide_eq_true hd
  have hn9 := of_decide_eq_true hn9
  subst hn9
  exact lv_ishl h2.1 h2.2.1 hd (kk ls hl)
theorem rs_ishr {x y : Int32} (hq : lk (mTab M) pc = some (.ishr, nx, a, b, c, cl)) (k : RJ M X bc bs nx lv (.int (x >>> (y &&& 31)) :: st) σ Q) : RJ M X bc bs pc lv (.int y :: .int x :: st) σ Q := by
  refine rj_of (fun p l e s m args below meth c H locs cells slots Z b sz ls h1 h2 hl kk => ?_) k
  have hk := mOk_at h1 hq
  simp only [enOk, iLen, Bool.and_true, Bool.and_eq_true] at hk
  obtain ⟨hd, hn9⟩ := hk
  have hd := of_decide_eq_true hd
  have hn9 := of_decide_eq_true hn9
  subst hn9
  exact lv_ishr h2.1 h2.2.1 hd (kk ls hl)
theorem rs_iushr {x y : Int32} (hq : lk (mTab M) pc = some (.iushr, nx, a, b, c, cl)) (k : RJ M X bc bs nx lv (.int (x.toUInt32 >>> (y.toUInt32 &&& Int32.toUInt32 31)).toInt32 :: st) σ Q) : RJ M X bc bs pc lv (.int y :: .int x :: st) σ Q := by
  refine rj_of (fun p l e s m args below meth c H locs cells slots Z b sz ls h1 h2 hl kk => ?_) k
  have hk := mOk_at h1 hq
  simp only [enOk, iLen, Bool.and_true, Bool.and_eq_true] at hk
  obtain ⟨hd, hn9⟩ := hk
  have hd := of_decide_eq_true hd
  have hn9 := of_decide_eq_true hn9
  subst hn9
  exact lv_iushr h2.1 h2.2.1 hd rfl (kk ls hl)
theorem rs_lushr {x : Int64} {y : Int32} (hq : lk (mTab M) pc = some (.lushr, nx, a, b, c, cl)) (k : RJ M X bc bs nx lv (.long (x.toUInt64 >>> (y.toInt64.toUInt64 &&& Int64.toUInt64 63)).toInt64 :: st) σ Q) : RJ M X bc bs pc lv (.int y :: .long x :: st) σ Q := by
  refine rj_of (fun p l e s m args below meth c H locs cells slots Z b sz ls h1 h2 hl kk => ?_) k
  have hk := mOk_at h1 hq
  simp only [enOk, iLen, Bool.and_true, Bool.and_eq_true] at hk
  obtain ⟨hd, hn9⟩ := hk
  have hd := of_decide_eq_true hd
  have hn9 := of_decide_eq_true hn9
  subst hn9
  exact lv_lushr h2.1 h2.2.1 hd rfl (kk ls hl)
theorem rs_lshl {x : Int64} {y : Int32} (hq : lk (mTab M) pc = some (.lshl, nx, a, b, c, cl)) (k : RJ M X bc bs nx lv (.long (x <<< (y.toInt64 &&& 63)) :: st) σ Q) : RJ M X bc bs pc lv (.int y :: .long x :: st) σ Q := by
  refine rj_of (fun p l e s m args below meth c H locs cells slots Z b sz ls h1 h2 hl kk => ?_) k
  have hk := mOk_at h1 hq
  simp only [enOk, iLen, Bool.and_true, Bool.and_eq_true] at hk
  obtain ⟨hd, hn9⟩ := hk
  have hd := of_decide_eq_true hd
  have hn9 := of_decide_eq_true hn9
  subst hn9
  exact lv_lshl h2.1 h2.2.1 hd rfl (kk ls hl)
theorem rs_ladd {x y : Int64} (hq : lk (mTab M) pc = some (.ladd, nx, a, b, c, cl)) (k : RJ M X bc bs nx lv (.long (x + y) :: st) σ Q) : RJ M X bc bs pc lv (.long y :: .long x :: st) σ Q := by
  refine rj_of (fun p l e s m args below meth c H locs cells slots Z b sz ls h1 h2 hl kk => ?_) k
  have hk := mOk_at h1 hq
  simp only [enOk, iLen, Bool.and_true, Bool.and_eq_true] at hk
  obtain ⟨hd, hn9⟩ := hk
  have hd := of_decide_eq_true hd
  have hn9 := of_decide_eq_true hn9
  subst hn9
  exact lv_ladd h2.1 h2.2.1 hd (kk ls hl)
theorem rs_lmul {x y : Int64} (hq : lk (mTab M) pc = some (.lmul, nx, a, b, c, cl)) (k : RJ M X bc bs nx lv (.long (x * y) :: st) σ Q) : RJ M X bc bs pc lv (.long y :: .long x :: st) σ Q := by
  refine rj_of (fun p l e s m args below meth c H locs cells slots Z b sz ls h1 h2 hl kk => ?_) k
  have hk := mOk_at h1 hq
  simp only [enOk, iLen, Bool.and_true, Bool.and_eq_true] at hk
  obtain ⟨hd, hn9⟩ := hk
  have hd := of_decide_eq_true hd
  have hn9 := of_decide_eq_true hn9
  subst hn9
  exact lv_lmul h2.1 h2.2.1 hd (kk ls hl)
theorem rs_lor {x y : Int64} (hq : lk (mTab M) pc = some (.lor, nx, a, b, c, cl)) (k : RJ M X bc bs nx lv (.long (x ||| y) :: st) σ Q) : RJ M X bc bs pc lv (.long y :: .long x :: st) σ Q := by
  refine rj_of (fun p l e s m args below meth c H locs cells slots Z b sz ls h1 h2 hl kk => ?_) k
  have hk := mOk_at h1 hq
  simp only [enOk, iLen, Bool.and_true, Bool.and_eq_true] at hk
  obtain ⟨hd, hn9⟩ := hk
  have hd := of_decide_eq_true hd
  have hn9 := of_decide_eq_true hn9
  subst hn9
  exact lv_lor h2.1 h2.2.1 hd (kk ls hl)
theorem rs_lcmp {x y : Int64} (hq : lk (mTab M) pc = some (.lcmp, nx, a, b, c, cl)) (k : RJ M X bc bs nx lv (.int (lg_cmp x y) :: st) σ Q) : RJ M X bc bs pc lv (.long y :: .long x :: st) σ Q := by
  refine rj_of (fun p l e s m args below meth c H locs cells slots Z b sz ls h1 h2 hl kk => ?_) k
  have hk := mOk_at h1 hq
  simp only [enOk, iLen, Bool.and_true, Bool.and_eq_true] at hk
  obtain ⟨hd, hn9⟩ := hk
  have hd := of_decide_eq_true hd
  have hn9 := of_decide_eq_true hn9
  subst hn9
  exact W.lcmp h2.1 h2.2.1 hd (kk ls hl)
theorem rs_i2l {x : Int32} (hq : lk (mTab M) pc = some (.i2l, nx, a, b, c, cl)) (k : RJ M X bc bs nx lv (.long x.toInt64 :: st) σ Q) : RJ M X bc bs pc lv (.int x :: st) σ Q := by
  refine rj_of (fun p l e s m args below meth c H locs cells slots Z b sz ls h1 h2 hl kk => ?_) k
  have hk := mOk_at h1 hq
  simp only [enOk, iLen, Bool.and_true, Bool.and_eq_true] at hk
  obtain ⟨hd, hn9⟩ := hk
  have hd := of_decide_eq_true hd
  have hn9 := of_decide_eq_true hn9
  subst hn9
  exact lv_i2l h2.1 h2.2.1 hd rfl (kk ls hl)
theorem rs_l2i {x : Int64} (hq : lk (mTab M) pc = some (.l2i, nx, a, b, c, cl)) (k : RJ M X bc bs nx lv (.int x.toInt32 :: st) σ Q) : RJ M X bc bs pc lv (.long x :: st) σ Q := by
  refine rj_of (fun p l e s m args below meth c H locs cells slots Z b sz ls h1 h2 hl kk => ?_) k
  have hk := mOk_at h1 hq
  simp only [enOk, iLen, Bool.and_true, Bool.and_eq_true] at hk
  obtain ⟨hd, hn9⟩ := hk
  have hd := of_decide_eq_true hd
  have hn9 := of_decide_eq_true hn9
  subst hn9
  exact lv_l2i h2.1 h2.2.1 hd rfl (kk ls hl)
theorem rs_pop {x : Int32} (hq : lk (mTab M) pc = some (.pop, nx, a, b, c, cl)) (k : RJ M X bc bs nx lv (st) σ Q) : RJ M X bc bs pc lv (.int x :: st) σ Q := by
  refine rj_of (fun p l e s m args below meth c H locs cells slots Z b sz ls h1 h2 hl kk => ?_) k
  have hk := mOk_at h1 hq
  simp only [enOk, iLen, Bool.and_true, Bool.and_eq_true] at hk
  obtain ⟨hd, hn9⟩ := hk
  have hd := of_decide_eq_true hd
  have hn9 := of_decide_eq_true hn9
  subst hn9
  exact lv_pop h2.1 h2.2.1 hd rfl (kk ls hl)
theorem rs_dupi {x : Int32} (hq : lk (mTab M) pc = some (.dup, nx, a, b, c, cl)) (k : RJ M X bc bs nx lv (.int x :: .int x :: st) σ Q) : RJ M X bc bs pc lv (.int x :: st) σ Q := by
  refine rj_of (fun p l e s m args below meth c H locs cells slots Z b sz ls h1 h2 hl kk => ?_) k
  have hk := mOk_at h1 hq
  simp only [enOk, iLen, Bool.and_true, Bool.and_eq_true] at hk
  obtain ⟨hd, hn9⟩ := hk
  have hd := of_decide_eq_true hd
  have hn9 := of_decide_eq_true hn9
  subst hn9
  exact lv_dup h2.1 h2.2.1 hd rfl (kk ls hl)
theorem rs_dupa {x : Nat} (hq : lk (mTab M) pc = some (.dup, nx, a, b, c, cl)) (k : RJ M X bc bs nx lv (.ref x :: .ref x :: st) σ Q) : RJ M X bc bs pc lv (.ref x :: st) σ Q := by
  refine rj_of (fun p l e s m args below meth c H locs cells slots Z b sz ls h1 h2 hl kk => ?_) k
  have hk := mOk_at h1 hq
  simp only [enOk, iLen, Bool.and_true, Bool.and_eq_true] at hk
  obtain ⟨hd, hn9⟩ := hk
  have hd := of_decide_eq_true hd
  have hn9 := of_decide_eq_true hn9
  subst hn9
  exact lv_dup h2.1 h2.2.1 hd rfl (kk ls hl)
theorem rs_dup2 {x : Int32} {y : Nat} (hq : lk (mTab M) pc = some (.dup2, nx, a, b, c, cl)) (k : RJ M X bc bs nx lv (.int x :: .ref y :: .int x :: .ref y :: st) σ Q) : RJ M X bc bs pc lv (.int x :: .ref y :: st) σ Q := by
  refine rj_of (fun p l e s m args below meth c H locs cells slots Z b sz ls h1 h2 hl kk => ?_) k
  have hk := mOk_at h1 hq
  simp only [enOk, iLen, Bool.and_true, Bool.and_eq_true] at hk
  obtain ⟨hd, hn9⟩ := hk
  have hd := of_decide_eq_true hd
  have hn9 := of_decide_eq_true hn9
  subst hn9
  exact lv_dup2_11 h2.1 h2.2.1 hd rfl rfl (kk ls hl)
theorem rs_idiv {x y : Int32} (hq : lk (mTab M) pc = some (.idiv, nx, a, b, c, cl)) (hne : ¬ y = 0) (k : RJ M X bc bs nx lv (.int (x / y) :: st) σ Q) : RJ M X bc bs pc lv (.int y :: .int x :: st) σ Q := by
  refine rj_of (fun p l e s m args below meth c H locs cells slots Z b sz ls h1 h2 hl kk => ?_) k
  have hk := mOk_at h1 hq
  simp only [enOk, iLen, Bool.and_true, Bool.and_eq_true] at hk
  obtain ⟨hd, hn9⟩ := hk
  have hd := of_decide_eq_true hd
  have hn9 := of_decide_eq_true hn9
  subst hn9
  exact lv_idiv h2.1 h2.2.1 hd hne (kk ls hl)
theorem rs_irem {x y : Int32} (hq : lk (mTab M) pc = some (.irem, nx, a, b, c, cl)) (hne : ¬ y = 0) (k : RJ M X bc bs nx lv (.int (x - x / y * y) :: st) σ Q) : RJ M X bc bs pc lv (.int y :: .int x :: st) σ Q := by
  refine rj_of (fun p l e s m args below meth c H locs cells slots Z b sz ls h1 h2 hl kk => ?_) k
  have hk := mOk_at h1 hq
  simp only [enOk, iLen, Bool.and_true, Bool.and_eq_true] at hk
  obtain ⟨hd, hn9⟩ := hk
  have hd := of_decide_eq_true hd
  have hn9 := of_decide_eq_true hn9
  subst hn9
  exact lv_irem h2.1 h2.2.1 hd hne (kk ls hl)
theorem rs_ldiv {x y : Int64} (hq : lk (mTab M) pc = some (.ldiv, nx, a, b, c, cl)) (hne : ¬ y = 0) (k : RJ M X bc bs nx lv (.long (x / y) :: st) σ Q) : RJ M X bc bs pc lv (.long y :: .long x :: st) σ Q := by
  refine rj_of (fun p l e s m args below meth c H locs cells slots Z b sz ls h1 h2 hl kk => ?_) k
  have hk := mOk_at h1 hq
  simp only [enOk, iLen, Bool.and_true, Bool.and_eq_true] at hk
  obtain ⟨hd, hn9⟩ := hk
  have hd := of_decide_eq_true hd
  have hn9 := of_decide_eq_true hn9
  subst hn9
  exact lv_ldiv h2.1 h2.2.1 hd hne (kk ls hl)
theorem rs_lrem {x y : Int64} (hq : lk (mTab M) pc = some (.lrem, nx, a, b, c, cl)) (hne : ¬ y = 0) (k : RJ M X bc bs nx lv (.long (x - x / y * y) :: st) σ Q) : RJ M X bc bs pc lv (.long y :: .long x :: st) σ Q := by
  refine rj_of (fun p l e s m args below meth c H locs cells slots Z b sz ls h1 h2 hl kk => ?_) k
  have hk := mOk_at h1 hq
  simp only [enOk, iLen, Bool.and_true, Bool.and_eq_true] at hk
  obtain ⟨hd, hn9⟩ := hk
  have hd := of_decide_eq_true hd
  have hn9 := of_decide_eq_true hn9
  subst hn9
  exact lv_lrem h2.1 h2.2.1 hd hne (kk ls hl)
theorem rj_if_eq {x : Int32} {n : Int} (hq : lk (mTab M) pc = some (.ifCond .eq n, nx, a, b, c, cl)) (kt : x = 0 → RJ M X bc bs a lv st σ Q) (kf : ¬ x = 0 → RJ M X bc bs nx lv st σ Q) : RJ M X bc bs pc lv (.int x :: st) σ Q := by
  intro p l e s m args below meth c H locs cells slots Z b sz cA D ls h1 h2 h3 h4 h5 h6 h7 h8 hE
  have hk := mOk_at h1 hq
  simp only [enOk, iLen, Bool.and_true, Bool.and_eq_true] at hk
  obtain ⟨hd, hk2, hn9⟩ := hk
  have hd := of_decide_eq_true hd
  have hk2 := of_decide_eq_true hk2
  have hn9 := of_decide_eq_true hn9
  subst hn9
  exact lv_if_eq h2.1 h2.2.1 hd hk2 (fun h => kt h p l e s m args below meth c H locs cells slots Z b sz cA D ls h1 h2 h3 h4 h5 h6 h7 h8 hE) (fun h => kf h p l e s m args below meth c H locs cells slots Z b sz cA D ls h1 h2 h3 h4 h5 h6 h7 h8 hE)
theorem rj_if_ne {x : Int32} {n : Int} (hq : lk (mTab M) pc = some (.ifCond .ne n, nx, a, b, c, cl)) (kt : ¬ x = 0 → RJ M X bc bs a lv st σ Q) (kf : x = 0 → RJ M X bc bs nx lv st σ Q) : RJ M X bc bs pc lv (.int x :: st) σ Q := by
  intro p l e s m args below meth c H locs cells slots Z b sz cA D ls h1 h2 h3 h4 h5 h6 h7 h8 hE
  have hk := mOk_at h1 hq
  simp only [enOk, iLen, Bool.and_true, Bool.and_eq_true] at hk
  obtain ⟨hd, hk2, hn9⟩ := hk
  have hd := of_decide_eq_true hd
  have hk2 := of_decide_eq_true hk2
  have hn9 := of_decide_eq_true hn9
  subst hn9
  exact lv_if_ne h2.1 h2.2.1 hd hk2 (fun h => kt h p l e s m args below meth c H locs cells slots Z b sz cA D ls h1 h2 h3 h4 h5 h6 h7 h8 hE) (fun h => kf h p l e s m args below meth c H locs cells slots Z b sz cA D ls h1 h2 h3 h4 h5 h6 h7 h8 hE)
theorem rj_if_lt {x : Int32} {n : Int} (hq : lk (mTab M) pc = some (.ifCond .lt n, nx, a, b, c, cl)) (kt : x < 0 → RJ M X bc bs a lv st σ Q) (kf : ¬ x < 0 → RJ M X bc bs nx lv st σ Q) : RJ M X bc bs pc lv (.int x :: st) σ Q := by
  intro p l e s m args below meth c H locs cells slots Z b sz cA D ls h1 h2 h3 h4 h5 h6 h7 h8 hE
  have hk := mOk_at h1 hq
  simp only [enOk, iLen, Bool.and_true, Bool.and_eq_true] at hk
  obtain ⟨hd, hk2, hn9⟩ := hk
  have hd := of_decide_eq_true hd
  have hk2 := of_decide_eq_true hk2
  have hn9 := of_decide_eq_true hn9
  subst hn9
  exact lv_if_lt h2.1 h2.2.1 hd hk2 (fun h => kt h p l e s m args below meth c H locs cells slots Z b sz cA D ls h1 h2 h3 h4 h5 h6 h7 h8 hE) (fun h => kf h p l e s m args below meth c H locs cells slots Z b sz cA D ls h1 h2 h3 h4 h5 h6 h7 h8 hE)
theorem rj_if_ge {x : Int32} {n : Int} (hq : lk (mTab M) pc = some (.ifCond .ge n, nx, a, b, c, cl)) (kt : 0 ≤ x → RJ M X bc bs a lv st σ Q) (kf : ¬ 0 ≤ x → RJ M X bc bs nx lv st σ Q) : RJ M X bc bs pc lv (.int x :: st) σ Q := by
  intro p l e s m args below meth c H locs cells slots Z b sz cA D ls h1 h2 h3 h4 h5 h6 h7 h8 hE
  have hk := mOk_at h1 hq
  simp only [enOk, iLen, Bool.and_true, Bool.and_eq_true] at hk
  obtain ⟨hd, hk2, hn9⟩ := hk
  have hd := of_decide_eq_true hd
  have hk2 := of_decide_eq_true hk2
  have hn9 := of_decide_eq_true hn9
  subst hn9
  exact lv_if_ge h2.1 h2.2.1 hd hk2 (fun h => kt h p l e s m args below meth c H locs cells slots Z b sz cA D ls h1 h2 h3 h4 h5 h6 h7 h8 hE) (fun h => kf h p l e s m args below meth c H locs cells slots Z b sz cA D ls h1 h2 h3 h4 h5 h6 h7 h8 hE)
theorem rj_if_gt {x : Int32} {n : Int} (hq : lk (mTab M) pc = some (.ifCond .gt n, nx, a, b, c, cl)) (kt : 0 < x → RJ M X bc bs a lv st σ Q) (kf : ¬ 0 < x → RJ M X bc bs nx lv st σ Q) : RJ M X bc bs pc lv (.int x :: st) σ Q := by
  intro p l e s m args below meth c H locs cells slots Z b sz cA D ls h1 h2 h3 h4 h5 h6 h7 h8 hE
  have hk := mOk_at h1 hq
  simp only [enOk, iLen, Bool.and_true, Bool.and_eq_true] at hk
  obtain ⟨hd, hk2, hn9⟩ := hk
  have hd := of_decide_eq_true hd
  have hk2 := of_decide_eq_true hk2
  have hn9 := of_decide_eq_true hn9
  subst hn9
  exact lv_if_gt h2.1 h2.2.1 hd hk2 (fun h => kt h p l e s m args below meth c H locs cells slots Z b sz cA D ls h1 h2 h3 h4 h5 h6 h7 h8 hE) (fun h => kf h p l e s m args below meth c H locs cells slots Z b sz cA D ls h1 h2 h3 h4 h5 h6 h7 h8 hE)
theorem rj_if_le {x : Int32} {n : Int} (hq : lk (mTab M) pc = some (.ifCond .le n, nx, a, b, c, cl)) (kt : x ≤ 0 → RJ M X bc bs a lv st σ Q) (kf : ¬ x ≤ 0 → RJ M X bc bs nx lv st σ Q) : RJ M X bc bs pc lv (.int x :: st) σ Q := by
  intro p l e s m args below meth c H locs cells slots Z b sz cA D ls h1 h2 h3 h4 h5 h6 h7 h8 hE
  have hk := mOk_at h1 hq
  simp only [enOk, iLen, Bool.and_true, Bool.and_eq_true] at hk
  obtain ⟨hd, hk2, hn9⟩ := hk
  have hd := of_decide_eq_true hd
  have hk2 := of_decide_eq_true hk2
  have hn9 := of_decide_eq_true hn9
  subst hn9
  exact lv_if_le h2.1 h2.2.1 hd hk2 (fun h => kt h p l e s m args below meth c H locs cells slots Z b sz cA D ls h1 h2 h3 h4 h5 h6 h7 h8 hE) (fun h => kf h p l e s m args below meth c H locs cells slots Z b sz cA D ls h1 h2 h3 h4 h5 h6 h7 h8 hE)
theorem rj_ic_eq {x y : Int32} {n : Int} (hq : lk (mTab M) pc = some (.if_icmp .eq n, nx, a, b, c, cl)) (kt : x = y → RJ M X bc bs a lv st σ Q) (kf : ¬ x = y → RJ M X bc bs nx lv st σ Q) : RJ M X bc bs pc lv (.int y :: .int x :: st) σ Q := by
  intro p l e s m args below meth c H locs cells slots Z b sz cA D ls h1 h2 h3 h4 h5 h6 h7 h8 hE
  have hk := mOk_at h1 hq
  simp only [enOk, iLen, Bool.and_true, Bool.and_eq_true] at hk
  obtain ⟨hd, hk2, hn9⟩ := hk
  have hd := of_decide_eq_true hd
  have hk2 := of_decide_eq_true hk2
  have hn9 := of_decide_eq_true hn9
  subst hn9
  exact lv_icmp_eq h2.1 h2.2.1 hd hk2 (fun h => kt h p l e s m args below meth c H locs cells slots Z b sz cA D ls h1 h2 h3 h4 h5 h6 h7 h8 hE) (fun h => kf h p l e s m args below meth c H locs cells slots Z b sz cA D ls h1 h2 h3 h4 h5 h6 h7 h8 hE)
theorem rj_ic_ne {x y : Int32} {n : Int} (hq : lk (mTab M) pc = some (.if_icmp .ne n, nx, a, b, c, cl)) (kt : ¬ x = y → RJ M X bc bs a lv st σ Q) (kf : x = y → RJ M X bc bs nx lv st σ Q) : RJ M X bc bs pc lv (.int y :: .int x :: st) σ Q := by
  intro p l e s m args below meth c H locs cells slots Z b sz cA D ls h1 h2 h3 h4 h5 h6 h7 h8 hE
  have hk := mOk_at h1 hq
  simp only [enOk, iLen, Bool.and_true, Bool.and_eq_true] at hk
  obtain ⟨hd, hk2, hn9⟩ := hk
  have hd := of_decide_eq_true hd
  have hk2 := of_decide_eq_true hk2
  have hn9 := of_decide_eq_true hn9
  subst hn9
  exact lv_icmp_ne h2.1 h2.2.1 hd hk2 (fun h => kt h p l e s m args below meth c H locs cells slots Z b sz cA D ls h1 h2 h3 h4 h5 h6 h7 h8 hE) (fun h => kf h p l e s m args below meth c H locs cells slots Z b sz cA D ls h1 h2 h3 h4 h5 h6 h7 h8 hE)
theorem rj_ic_lt {x y : Int32} {n : Int} (hq : lk (mTab M) pc = some (.if_icmp .lt n, nx, a, b, c, cl)) (kt : x < y → RJ M X bc bs a lv st σ Q) (kf : ¬ x < y → RJ M X bc bs nx lv st σ Q) : RJ M X bc bs pc lv (.int y :: .int x :: st) σ Q := by
  intro p l e s m args below meth c H locs cells slots Z b sz cA D ls h1 h2 h3 h4 h5 h6 h7 h8 hE
  have hk := mOk_at h1 hq
  simp only [enOk, iLen, Bool.and_true, Bool.and_eq_true] at hk
  obtain ⟨hd, hk2, hn9⟩ := hk
  have hd := of_decide_eq_true hd
  have hk2 := of_decide_eq_true hk2
  have hn9 := of_decide_eq_true hn9
  subst hn9
  exact lv_icmp_lt h2.1 h2.2.1 hd hk2 (fun h => kt h p l e s m args below meth c H locs cells slots Z b sz cA D ls h1 h2 h3 h4 h5 h6 h7 h8 hE) (fun h => kf h p l e s m args below meth c H locs cells slots Z b sz cA D ls h1 h2 h3 h4 h5 h6 h7 h8 hE)
theorem rj_ic_ge {x y : Int32} {n : Int} (hq : lk (mTab M) pc = some (.if_icmp .ge n, nx, a, b, c, cl)) (kt : y ≤ x → RJ M X bc bs a lv st σ Q) (kf : ¬ y ≤ x → RJ M X bc bs nx lv st σ Q) : RJ M X bc bs pc lv (.int y :: .int x :: st) σ Q := by
  intro p l e s m args below meth c H locs cells slots Z b sz cA D ls h1 h2 h3 h4 h5 h6 h7 h8 hE
  have hk := mOk_at h1 hq
  simp only [enOk, iLen, Bool.and_true, Bool.and_eq_true] at hk
  obtain ⟨hd, hk2, hn9⟩ := hk
  have hd := of_decide_eq_true hd
  have hk2 := of_decide_eq_true hk2
  have hn9 := of_decide_eq_true hn9
  subst hn9
  exact lv_icmp_ge h2.1 h2.2.1 hd hk2 (fun h => kt h p l e s m args below meth c H locs cells slots Z b sz cA D ls h1 h2 h3 h4 h5 h6 h7 h8 hE) (fun h => kf h p l e s m args below meth c H locs cells slots Z b sz cA D ls h1 h2 h3 h4 h5 h6 h7 h8 hE)
theorem rj_ic_gt {x y : Int32} {n : Int} (hq : lk (mTab M) pc = some (.if_icmp .gt n, nx, a, b, c, cl)) (kt : y < x → RJ M X bc bs a lv st σ Q) (kf : ¬ y < x → RJ M X bc bs nx lv st σ Q) : RJ M X bc bs pc lv (.int y :: .int x :: st) σ Q := by
  intro p l e s m args below meth c H locs cells slots Z b sz cA D ls h1 h2 h3 h4 h5 h6 h7 h8 hE
  have hk := mOk_at h1 hq
  simp only [enOk, iLen, Bool.and_true, Bool.and_eq_true] at hk
  obtain ⟨hd, hk2, hn9⟩ := hk
  have hd := of_decide_eq_true hd
  have hk2 := of_decide_eq_true hk2
  have hn9 := of_decide_eq_true hn9
  subst hn9
  exact lv_icmp_gt h2.1 h2.2.1 hd hk2 (fun h => kt h p l e s m args below meth c H locs cells slots Z b sz cA D ls h1 h2 h3 h4 h5 h6 h7 h8 hE) (fun h => kf h p l e s m args below meth c H locs cells slots Z b sz cA D ls h1 h2 h3 h4 h5 h6 h7 h8 hE)
theorem rj_ic_le {x y : Int32} {n : Int} (hq : lk (mTab M) pc = some (.if_icmp .le n, nx, a, b, c, cl)) (kt : x ≤ y → RJ M X bc bs a lv st σ Q) (kf : ¬ x ≤ y → RJ M X bc bs nx lv st σ Q) : RJ M X bc bs pc lv (.int y :: .int x :: st) σ Q := by
  intro p l e s m args below meth c H locs cells slots Z b sz cA D ls h1 h2 h3 h4 h5 h6 h7 h8 hE
  have hk := mOk_at h1 hq
  simp only [enOk, iLen, Bool.and_true, Bool.and_eq_true] at hk
  obtain ⟨hd, hk2, hn9⟩ := hk
  have hd := of_decide_eq_true hd
  have hk2 := of_decide_eq_true hk2
  have hn9 := of_decide_eq_true hn9
  subst hn9
  exact lv_icmp_le h2.1 h2.2.1 hd hk2 (fun h => kt h p l e s m args below meth c H locs cells slots Z b sz cA D ls h1 h2 h3 h4 h5 h6 h7 h8 hE) (fun h => kf h p l e s m args below meth c H locs cells slots Z b sz cA D ls h1 h2 h3 h4 h5 h6 h7 h8 hE)
theorem rj_step {E : Instr} (hq : lk (mTab M) pc = some (E, nx, a, b, c, cl)) (hs : stp E a c cl lv st = some (lv', st')) (k : RJ M X bc bs nx lv' st' σ Q) : RJ M X bc bs pc lv st σ Q := by
  cases E with
  | iconst n => cases hs; exact rs_iconst hq k
  | bipush n => cases hs; exact rs_bipush hq k
  | sipush n => cases hs; exact rs_sipush hq k
  | ldc n => cases hs; exact rs_ldc hq k
  | ldc_w n => cases hs; exact rs_ldcw hq k
  | lconst n => cases hs; exact rs_lconst hq k
  | ldc2_w n => cases hs; exact rs_ldc2 hq k
  | goto n => cases hs; exact rs_goto hq k
  | iload n => obtain ⟨x, hx, rfl, rfl⟩ := st_li_e hs; exact rs_iload hq hx k
  | iload_n n => obtain ⟨x, hx, rfl, rfl⟩ := st_li_e hs; exact rs_iload_n hq hx k
  | lload n => obtain ⟨x, hx, rfl, rfl⟩ := st_ll_e hs; exact rs_lload hq hx k
  | lload_n n => obtain ⟨x, hx, rfl, rfl⟩ := st_ll_e hs; exact rs_lload_n hq hx k
  | aload n => obtain ⟨x, hx, rfl, rfl⟩ := st_la_e hs; exact rs_aload hq hx k
  | aload_n n => obtain ⟨x, hx, rfl, rfl⟩ := st_la_e hs; exact rs_aload_n hq hx k
  | istore n => obtain ⟨x, rfl, ho, rfl⟩ := st_si_e hs; exact rs_istore hq ho k
  | istore_n n => obtain ⟨x, rfl, ho, rfl⟩ := st_si_e hs; exact rs_istore_n hq ho k
  | lstore n => obtain ⟨x, rfl, ho, rfl⟩ := st_sl_e hs; exact rs_lstore hq ho k
  | lstore_n n => obtain ⟨x, rfl, ho, rfl⟩ := st_sl_e hs; exact rs_lstore_n hq ho k
  | astore n => obtain ⟨x, rfl, ho, rfl⟩ := st_sa_e hs; exact rs_astore hq ho k
  | astore_n n => obtain ⟨x, rfl, ho, rfl⟩ := st_sa_e hs; exact rs_astore_n hq ho k
  | iinc n d => obtain ⟨x, hx, ho, rfl, rfl⟩ := st_inc_e hs; exact rs_iinc hq ho hx k
  | iadd => obtain ⟨x, y, r, rfl, rfl, rfl⟩ := st_ii_e hs; exact rs_iadd hq k
  | isub => obtain ⟨x, y, r, rfl, rfl, rfl⟩ := st_ii_e hs; exact rs_isub hq k
  | imul => obtain ⟨x, y, r, rfl, rfl, rfl⟩ := st_ii_e hs; exact rs_imul hq k
  | iand => obtain ⟨x, y, r, rfl, rfl, rfl⟩ := st_ii_e hs; exact rs_iand hq k
  | ior => obtain ⟨x, y, r, rfl, rfl, rfl⟩ := st_ii_e hs; exact rs_ior hq k
  | ixor => obtain ⟨x, y, r, rfl, rfl, rfl⟩ := st_ii_e hs; exact rs_ixor hq k
  | ishl => obtain ⟨x, y, r, rfl, rfl, rfl⟩ := st_ii_e hs; exact rs_ishl hq k
  | ishr => obtain ⟨x, y, r, rfl, rfl, rfl⟩ := st_ii_e hs; exact rs_ishr hq k
  | iushr => obtain ⟨x, y, r, rfl, rfl, rfl⟩ := st_ii_e hs; exact rs_iushr hq k
  | ladd => obtain ⟨x, y, r, rfl, rfl, rfl⟩ := st_jj_e hs; exact rs_ladd hq k
  | lmul => obtain ⟨x, y, r, rfl, rfl, rfl⟩ := st_jj_e hs; exact rs_lmul hq k
  | lor => obtain ⟨x, y, r, rfl, rfl, rfl⟩ := st_jj_e hs; exact rs_lor hq k
  | lushr => obtain ⟨x, y, r, rfl, rfl, rfl⟩ := st_ij_e hs; exact rs_lushr hq k
  | lshl => obtain ⟨x, y, r, rfl, rfl, rfl⟩ := st_ij_e hs; exact rs_lshl hq k
  | lcmp => obtain ⟨x, y, r, rfl, rfl, rfl⟩ := st_cmp_e hs; exact rs_lcmp hq k
  | i2l => obtain ⟨x, r, rfl, rfl, rfl⟩ := st_i2l_e hs; exact rs_i2l hq k
  | l2i => obtain ⟨x, r, rfl, rfl, rfl⟩ := st_l2i_e hs; exact rs_l2i hq k
  | pop => obtain ⟨x, rfl, rfl⟩ := st_pop_e hs; exact rs_pop hq k
  | dup => rcases st_dup_e hs with ⟨x, r, rfl, rfl, rfl⟩ | ⟨x, r, rfl, rfl, rfl⟩; exact rs_dupi hq k; exact rs_dupa hq k
  | dup2 => obtain ⟨x, y, r, rfl, rfl, rfl⟩ := st_dup2_e hs; exact rs_dup2 hq k
  | _ => cases hs
end RjSteps
end
section
/-! rows of the judgement: cells, calls, returns, switches -/
def tyTab : List (List (Bool × FieldType)) := [[(true, (.object "SpeltRoutes$Table"))], [(true, (.array .int)), (true, (.array .int)), (true, (.array .int)), (false, .int)], [(true, (.array .int)), (true, (.array .int)), (false, .int), (false, .int), (false, .boolean)], [(true, (.array .int)), (true, (.array .int)), (true, (.array .int))], [(true, (.object "SpeltRoutes$Expression")), (true, (.array .int)), (true, (.array .int)), (true, (.array .int)), (true, (.array .int)), (false, .int), (false, .int), (false, .int), (false, .int)], [(true, (.array .int)), (true, (.array .int)), (true, (.array .int))], [(true, (.array .int)), (false, .int), (false, .int), (false, .int)], [(true, (.array .int)), (true, (.array .int)), (true, (.array .int)), (true, (.array .int)), (false, .int)], [(true, (.array .long)), (true, (.array .int)), (false, .int), (false, .int)], [(true, (.object "SpeltRoutes$Table")), (true, (.array .int)), (false, (.array .int)), (false, (.array .int))], [(true, (.object "SpeltRoutes$Edges")), (true, (.object "SpeltRoutes$Steps")), (true, (.object "SpeltRoutes$Steps")), (true, (.object "SpeltRoutes$Steps")), (true, (.array .int)), (false, .int), (true, (.array (.object "SpeltRoutes$Expression"))), (true, (.object "SpeltRoutes$Reader")), (true, (.object "SpeltRoutes$Reach")), (true, (.object "SpeltRoutes$Shortest")), (true, (.object "SpeltRoutes$Tally")), (true, (.object "SpeltRoutes$Comparison")), (true, (.object "SpeltRoutes$Standing")), (false, .int), (false, .int), (false, .int)], [(true, (.array .int)), (false, .int), (true, (.array .int)), (true, (.array .int)), (false, .int), (true, (.array .int)), (true, (.array .int)), (true, (.array .int)), (true, (.array .int)), (false, .int), (true, (.array .int)), (false, .int), (false, .int), (true, (.array .int)), (true, (.array .int)), (false, .int), (false, .int), (true, (.array .int)), (false, .int), (true, (.array .int)), (true, (.array .int)), (true, (.array .int)), (false, .int), (true, (.array .int)), (true, (.array .int)), (true, (.array .int)), (true, (.array .int)), (true, (.array .int)), (true, (.array .int)), (false, .int), (true, (.array .long)), (true, (.array .long)), (false, .int)]]
theorem tyTab_ok : ((List.range 12).all fun a => match vwCl[a]?, tyTab[a]? with
    | some (_, T, N), some l => decide (l.length = N) && (List.range N).all (fun b => decide (l[b]? = some ((T b).2.2.2, (parseFieldDescriptor (T b).2.2.1).getD .int)) && decide ((parseFieldDescriptor (T b).2.2.1).isSome = true) && (List.range N).all (fun b' => decide (b = b' ∨ (T b).2.1 ≠ (T b').2.1)))
    | _, _ => false) = true := by decide +kernel
theorem vwIn : (vwCl.all fun q => (u_ws q.1 q.2.1 q.2.2).all (fun w => decide (w ∈ lw_tbl) && goodWord w)) = true := by decide +kernel
theorem vw_in {a : Nat} {C : String} {T : u_T} {N : Nat} (h : vwCl[a]? = some (C, T, N)) : ∀ w ∈ u_ws C T N, w ∈ xTbl := by
  intro w hw
  have h1 := List.all_eq_true.mp vwIn _ (List.mem_of_getElem? h)
  have h2 := List.all_eq_true.mp h1 w hw
  rw [Bool.and_eq_true] at h2
  exact List.mem_filter.mpr ⟨of_decide_eq_true h2.1, h2.2⟩
theorem ty_at {a b : Nat} {C : String} {T : u_T} {N : Nat} (h : vwCl[a]? = some (C, T, N)) : (∀ k, k < N → parseFieldDescriptor (T k).2.2.1 = some ((parseFieldDescriptor (T k).2.2.1).getD .int)) ∧ (∀ x, x < N → ∀ y, y < N → x ≠ y → (T x).2.1 ≠ (T y).2.1) ∧ ∀ b f ty, (tyTab[a]?.bind (·[b]?)) = some (f, ty) → b < N ∧ (T b).2.2.2 = f ∧ parseFieldDescriptor (T b).2.2.1 = some ty := by
  have ha : a < 12 := (List.getElem?_eq_some_iff.mp h).1
  have h1 := List.all_eq_true.mp tyTab_ok a (List.mem_range.mpr ha)
  rw [h] at h1
  cases hl : tyTab[a]? with
  | none => rw [hl] at h1; cases h1
  | some l =>
    rw [hl] at h1
    simp only [Bool.and_eq_true] at h1
    obtain ⟨h1, h2⟩ := h1
    have h1 := of_decide_eq_true h1
    have key : ∀ k, k < N → l[k]? = some ((T k).2.2.2, (parseFieldDescriptor (T k).2.2.1).getD .int) ∧ (parseFieldDescriptor (T k).2.2.1).isSome = true ∧ ∀ y, y < N → k ≠ y → (T k).2.1 ≠ (T y).2.1 := by
      intro k hk
      have h3 := List.all_eq_true.mp h2 k (List.mem_range.mpr hk)
      simp only [Bool.and_eq_true] at h3
      refine ⟨of_decide_eq_true h3.1.1, of_decide_eq_true h3.1.2, fun y hy hne => ?_⟩
      have h4 := of_decide_eq_true (List.all_eq_true.mp h3.2 y (List.mem_range.mpr hy))
      rcases h4 with h4 | h4
      · exact absurd h4 hne
      · exact h4
    have ks : ∀ k, k < N → parseFieldDescriptor (T k).2.2.1 = some ((parseFieldDescriptor (T k).2.2.1).getD .int) := by
      intro k hk
      obtain ⟨z, hz⟩ := Option.isSome_iff_exists.mp (key k hk).2.1
      rw [hz]; rfl
    refine ⟨ks, fun x hx y hy hne => (key x hx).2.2 y hy hne, fun b f ty hb => ?_⟩
    have hb : l[b]? = some (f, ty) := hb
    have hbN : b < N := by rw [← h1]; exact (List.getElem?_eq_some_iff.mp hb).1
    have h5 := (key b hbN).1.symm.trans hb
    cases h5
    exact ⟨hbN, rfl, ks b hbN⟩
theorem XC.w {p : Program} {s : State} {m : MethodId} {args : Array Value} {meth : Method} {c : Code} {M : MD} (h : XC p s m args meth c M) {w : Jvm.Cond} (hw : w ∈ lw_tbl) (hg : goodWord w = true) : w.before args s = true := h.2.2.2.2.2.1 w (List.mem_filter.mpr ⟨hw, hg⟩)
theorem flOk_e {own : String} {i a b : Nat} (h : flOk own i a b = true) : ∃ C T N, vwCl[a]? = some (C, T, N) ∧ b < N ∧ (T b).1 = C ∧ Jvm.Cond.fieldLink own i C (T b).2.1 (T b).2.2.1 ∈ lw_tbl := by
  unfold flOk at h
  split at h
  · rename_i C T N hh
    simp only [Bool.and_eq_true] at h
    exact ⟨C, T, N, hh, of_decide_eq_true h.1.1, of_decide_eq_true h.1.2, of_decide_eq_true h.2⟩
  · cases h
theorem xa_k {b sz k : Nat} (h : k < 1000000) : xa b sz k = sz + k := if_neg (by omega)
section RjCells
variable {M : MD} {X : Option (Nat × (Nat → Int32))} {bc bs pc nx a b : Nat} {c : Int32} {cl : Int64} {lv : List (Option Value)} {st : List Value} {σ : List va_E} {Q : Option Value → List va_E → Prop}
theorem σlt {b sz : Nat} {cA : Nat → ClassId} {D : va_G} {s : State} {H : Heap} {locs : List Loc} (h : XW b sz cA D σ s H locs) {k : Nat} {e : va_E} (hk : σ[k]? = some e) : k < 1000000 :=
  Nat.lt_of_lt_of_le (List.getElem?_eq_some_iff.mp hk).1 h.2.2.2.2.2
theorem rj_get {i k : Nat} {fs : List Value} {v : Value} (hq : lk (mTab M) pc = some (.getfield i, nx, a, b, c, cl)) (hσ : σ[k]? = some (.inr (a, fs))) (hv : fs[b]? = some v) (K : RJ M X bc bs nx lv (v :: st) σ Q) : RJ M X bc bs pc lv (.ref k :: st) σ Q := by
  intro p l e s m args below meth c H locs cells slots Z b sz cA D ls h1 h2 h3 h4 h5 h6 h7 h8 hE
  have hk := mOk_at h1 hq
  simp only [enOk, iLen, Bool.and_true, Bool.and_eq_true] at hk
  obtain ⟨⟨hd, hn9⟩, hf⟩ := hk
  have hd := of_decide_eq_true hd
  have hn9 := of_decide_eq_true hn9
  subst hn9
  obtain ⟨C, T, N, e1, e2, e3, e4⟩ := flOk_e hf
  have hkk := σlt h4 hσ
  have key := va_get (ls := ls) (rest := st.map (xv b sz)) (v := xv b sz v) h2.1 h2.2.1 h2.2.2.2.2.2.1 (vw_in e1) h2.2.2.2.2.1 h4.1.1 h4.2.1 k (xw_get hσ) e1 _ e2 (h2.w e4 rfl) (fun x hx => by rw [e3] at hx; exact hx) (by rw [List.getElem?_map, hv]; rfl) hd (K p l e s m args below meth c H locs cells slots Z b sz cA D ls h1 h2 h3 h4 h5 h6 h7 h8 hE)
  rw [← xa_k (b := b) hkk] at key
  exact key
/-- what a store gives: the heap's end stays where it was -/
theorem xw_sized {p : Program} {l : Launch} {e : Env} {R : Room} {s : State} {m : MethodId} {args : Array Value} {below : List Frame} {meth : Method} {cc : Code} {H : Heap} {locs : List Loc} {cells slots : Nat} {Z : State → Prop} {g : JFrame} {sz n : Nat} (hz : s.heap.size + cells = n) (h : H.size ≤ n → W p l e R s m args below meth cc H locs cells slots Z g) : W p l e R s m args below meth cc H locs cells slots Z g := by
  intro T hT X
  have h1 := X.heapSize
  rw [hT] at h1
  exact h (by omega) T hT X
theorem xS_self {b sz : Nat} {cA : Nat → ClassId} {D : va_G} {s : State} {H : Heap} {locs : List Loc} (h : XW b sz cA D σ s H locs) : va_S (fun q => sz ≤ q) H H locs := ⟨Nat.le_refl _, fun _ _ _ => rfl, h.2.2.1.2.2⟩
theorem xS_then {b sz : Nat} {cA : Nat → ClassId} {D : va_G} {s : State} {H H1 : Heap} {locs locs1 : List Loc} (h : XW b sz cA D σ s H locs) (h1 : va_S (fun q => sz ≤ q) H H1 locs1) : va_S (fun q => sz ≤ q) s.heap H1 locs1 :=
  ⟨Nat.le_trans h.2.2.1.1 h1.1, fun q hq hn => (h1.2.1 q (Nat.lt_of_lt_of_le hq h.2.2.1.1) hn).trans (h.2.2.1.2.1 q hq hn), h1.2.2⟩
/-- behind a store into cell k -/
theorem xw_stored {b sz : Nat} {cA : Nat → ClassId} {D : va_G} {s : State} {H H1 : Heap} {locs locs1 : List Loc} {cells k : Nat} {e : va_E} (h4 : XW b sz cA D σ s H locs) (h8 : s.heap.size + cells = sz + σ.length) (hP1 : va_P D vwCl ((xw b sz cA σ).set k (sz + k, xe b sz cA e)) H1) (hS1 : va_S (fun q => sz ≤ q) H H1 locs1) (hz : H1.size ≤ sz + σ.length) : XW b sz cA D (σ.set k e) s H1 locs1 := by
  refine ⟨h4.1, by rw [← xw_set]; exact hP1, xS_then h4 hS1, ?_, h4.2.2.2.2.1, by rw [List.length_set]; exact h4.2.2.2.2.2⟩
  rw [List.length_set]
  have := hS1.1
  have := h4.2.2.2.1
  omega
theorem rj_put0 {i k : Nat} {fs : List Value} {v : Value} {ty : FieldType} (hq : lk (mTab M) pc = some (.putfield i, nx, a, b, c, cl)) (hσ : σ[k]? = some (.inr (a, fs))) (hl : b < fs.length) (ht : (tyTab[a]?.bind (·[b]?)) = some (false, ty)) (hn : ∀ b sz, narrow ty (xv b sz v) = xv b sz v) (hfit : ∀ b sz, fits ty (xv b sz v) = true)
    (K : RJ M X bc bs nx lv st (σ.set k (.inr (a, fs.set b v))) Q) : RJ M X bc bs pc lv (v :: .ref k :: st) σ Q := by
  intro p l e s m args below meth c H locs cells slots Z b0 sz cA D ls h1 h2 h3 h4 h5 h6 h7 h8 hE
  have hk := mOk_at h1 hq
  simp only [enOk, iLen, Bool.and_true, Bool.and_eq_true] at hk
  obtain ⟨⟨hd, hn9⟩, hf⟩ := hk
  have hd := of_decide_eq_true hd
  have hn9 := of_decide_eq_true hn9
  subst hn9
  obtain ⟨C, T, N, e1, e2, e3, e4⟩ := flOk_e hf
  obtain ⟨t1, t2, t3⟩ := ty_at (b := 0) e1
  obtain ⟨-, t4, t5⟩ := t3 _ _ _ ht
  have hkk := σlt h4 hσ
  have key := va_put (p := p) (l := l) (e := e) (R := mRm M) (s := s) (below := below) (meth := meth) (H0 := H) (cells := cells) (slots := slots) (Q := Z) (ls := ls) (rest := st.map (xv b0 sz)) (v := xv b0 sz v) h2.1 h2.2.1 h2.2.2.2.2.2.1 (vw_in e1) _ t1 t2 h2.2.2.2.2.1 h4.1.1 h4.2.1 (xw_D σ) (xS_self h4) k (xw_get hσ) e1 b e2 (h2.w e4 rfl) (fun x hx => by rw [e3] at hx; exact hx) t4 t5 (hn b0 sz) (hfit b0 sz) (by rw [List.length_map]; exact hl) hd (fun H1 locs1 hP1 hD1 hS1 => xw_sized (sz := sz) h8 fun hz =>
    K p l e s m args below meth c H1 locs1 cells slots Z b0 sz cA D ls h1 h2 h3 (xw_stored h4 h8 (by rw [show xe b0 sz cA (.inr (a, fs.set b v)) = .inr (a, (fs.map (xv b0 sz)).set b (xv b0 sz v)) by simp only [xe, List.map_set]]; exact hP1) hS1 hz) h5 h6 h7 (by rw [List.length_set]; exact h8) hE)
  rw [← xa_k (b := b0) hkk] at key
  exact key
theorem rj_putF0 {i k : Nat} {fs : List Value} {v : Value} {ty : FieldType} (hq : lk (mTab M) pc = some (.putfield i, nx, a, b, c, cl)) (hσ : σ[k]? = some (.inr (a, fs))) (hl : b < fs.length) (ht : (tyTab[a]?.bind (·[b]?)) = some (true, ty)) (hin : (mY M).name = "<init>") (hcl : (vwCl[a]?.map (·.1)) = some (mY M).cls) (hn : ∀ b sz, narrow ty (xv b sz v) = xv b sz v) (hfit : ∀ b sz, fits ty (xv b sz v) = true)
    (K : RJ M X bc bs nx lv st (σ.set k (.inr (a, fs.set b v))) Q) : RJ M X bc bs pc lv (v :: .ref k :: st) σ Q := by
  intro p l e s m args below meth c H locs cells slots Z b0 sz cA D ls h1 h2 h3 h4 h5 h6 h7 h8 hE
  have hk := mOk_at h1 hq
  simp only [enOk, iLen, Bool.and_true, Bool.and_eq_true] at hk
  obtain ⟨⟨hd, hn9⟩, hf⟩ := hk
  have hd := of_decide_eq_true hd
  have hn9 := of_decide_eq_true hn9
  subst hn9
  obtain ⟨C, T, N, e1, e2, e3, e4⟩ := flOk_e hf
  obtain ⟨t1, t2, t3⟩ := ty_at (b := 0) e1
  obtain ⟨-, t4, t5⟩ := t3 _ _ _ ht
  have hkk := σlt h4 hσ
  rw [e1] at hcl
  have hcl : C = (mY M).cls := Option.some.inj hcl
  have key := va_putF (p := p) (l := l) (e := e) (R := mRm M) (s := s) (below := below) (meth := meth) (H0 := H) (cells := cells) (slots := slots) (Q := Z) (ls := ls) (rest := st.map (xv b0 sz)) (v := xv b0 sz v) h2.1 h2.2.1 h2.2.2.2.2.2.1 (vw_in e1) _ t1 t2 h2.2.2.2.2.1 h4.1.1 h4.2.1 (xw_D σ) (xS_self h4) k (xw_get hσ) e1 b e2 (h2.w e4 rfl) (fun x hx => by rw [e3] at hx; exact hx) t4 (h2.2.2.2.2.2.2.2.trans hin) (e3.trans hcl) t5 (hn b0 sz) (hfit b0 sz) (by rw [List.length_map]; exact hl) hd (fun H1 locs1 hP1 hD1 hS1 => xw_sized (sz := sz) h8 fun hz =>
    K p l e s m args below meth c H1 locs1 cells slots Z b0 sz cA D ls h1 h2 h3 (xw_stored h4 h8 (by rw [show xe b0 sz cA (.inr (a, fs.set b v)) = .inr (a, (fs.map (xv b0 sz)).set b (xv b0 sz v)) by simp only [xe, List.map_set]]; exact hP1) hS1 hz) h5 h6 h7 (by rw [List.length_set]; exact h8) hE)
  rw [← xa_k (b := b0) hkk] at key
  exact key
theorem rj_iald {k n : Nat} {f : Nat → Int32} {i : Int32} (hq : lk (mTab M) pc = some (.iaload, nx, a, b, c, cl)) (hσ : σ[k]? = some (.inl (0, n, .inl f))) (hin : vp_in i n) (K : RJ M X bc bs nx lv (.int (f i.toNatClampNeg) :: st) σ Q) : RJ M X bc bs pc lv (.int i :: .ref k :: st) σ Q := by
  intro p l e s m args below meth c H locs cells slots Z b0 sz cA D ls h1 h2 h3 h4 h5 h6 h7 h8 hE
  have hk := mOk_at h1 hq
  simp only [enOk, iLen, Bool.and_true, Bool.and_eq_true] at hk
  obtain ⟨hd, hn9⟩ := hk
  have hd := of_decide_eq_true hd
  have hn9 := of_decide_eq_true hn9
  subst hn9
  have hkk := σlt h4 hσ
  have key := va_iald (ls := ls) (rest := st.map (xv b0 sz)) h2.1 h2.2.1 h4.1.1 h4.2.1 k 0 (xw_get hσ) rfl hin hd (K p l e s m args below meth c H locs cells slots Z b0 sz cA D ls h1 h2 h3 h4 h5 h6 h7 h8 hE)
  rw [← xa_k (b := b0) hkk] at key
  exact key
theorem rj_lald {k n : Nat} {f : Nat → Int64} {i : Int32} (hq : lk (mTab M) pc = some (.laload, nx, a, b, c, cl)) (hσ : σ[k]? = some (.inl (1, n, .inr (.inl f)))) (hin : vp_in i n) (K : RJ M X bc bs nx lv (.long (f i.toNatClampNeg) :: st) σ Q) : RJ M X bc bs pc lv (.int i :: .ref k :: st) σ Q := by
  intro p l e s m args below meth c H locs cells slots Z b0 sz cA D ls h1 h2 h3 h4 h5 h6 h7 h8 hE
  have hk := mOk_at h1 hq
  simp only [enOk, iLen, Bool.and_true, Bool.and_eq_true] at hk
  obtain ⟨hd, hn9⟩ := hk
  have hd := of_decide_eq_true hd
  have hn9 := of_decide_eq_true hn9
  subst hn9
  have hkk := σlt h4 hσ
  have key := va_lald (ls := ls) (rest := st.map (xv b0 sz)) h2.1 h2.2.1 h4.1.1 h4.2.1 k 1 (xw_get hσ) rfl hin hd (K p l e s m args below meth c H locs cells slots Z b0 sz cA D ls h1 h2 h3 h4 h5 h6 h7 h8 hE)
  rw [← xa_k (b := b0) hkk] at key
  exact key
theorem rj_aald {k n r : Nat} {f : Nat → Option Nat} {i : Int32} (hq : lk (mTab M) pc = some (.aaload, nx, a, b, c, cl)) (hσ : σ[k]? = some (.inl (2, n, .inr (.inr (.inr (.inr f)))))) (hin : vp_in i n) (hr : f i.toNatClampNeg = some r) (K : RJ M X bc bs nx lv (.ref r :: st) σ Q) : RJ M X bc bs pc lv (.int i :: .ref k :: st) σ Q := by
  intro p l e s m args below meth c H locs cells slots Z b0 sz cA D ls h1 h2 h3 h4 h5 h6 h7 h8 hE
  have hk := mOk_at h1 hq
  simp only [enOk, iLen, Bool.and_true, Bool.and_eq_true] at hk
  obtain ⟨hd, hn9⟩ := hk
  have hd := of_decide_eq_true hd
  have hn9 := of_decide_eq_true hn9
  subst hn9
  have hkk := σlt h4 hσ
  have key := va_aldq (p := p) (l := l) (e := e) (R := mRm M) (below := below) (meth := meth) (locs := locs) (cells := cells) (slots := slots) (Q := Z) (ls := ls) (rest := st.map (xv b0 sz)) h2.1 h2.2.1 h4.1.1 h4.2.1 k 2 (xw_get hσ) rfl hin hd (by
    show W _ _ _ _ _ _ _ _ _ _ _ _ _ _ _ (F0 m _ ls (va_rf ((f i.toNatClampNeg).map (xa b0 sz)) :: _))
    rw [hr]
    exact K p l e s m args below meth c H locs cells slots Z b0 sz cA D ls h1 h2 h3 h4 h5 h6 h7 h8 hE)
  rw [← xa_k (b := b0) hkk] at key
  exact key
theorem rj_alen {k t n : Nat} {r : vR} (hq : lk (mTab M) pc = some (.arraylength, nx, a, b, c, cl)) (hσ : σ[k]? = some (.inl (t, n, r))) (ht : t < 3) (K : RJ M X bc bs nx lv (.int (Int32.ofNat n) :: st) σ Q) : RJ M X bc bs pc lv (.ref k :: st) σ Q := by
  intro p l e s m args below meth c H locs cells slots Z b0 sz cA D ls h1 h2 h3 h4 h5 h6 h7 h8 hE
  have hk := mOk_at h1 hq
  simp only [enOk, iLen, Bool.and_true, Bool.and_eq_true] at hk
  obtain ⟨hd, hn9⟩ := hk
  have hd := of_decide_eq_true hd
  have hn9 := of_decide_eq_true hn9
  subst hn9
  have hkk := σlt h4 hσ
  obtain ⟨ty, hty⟩ : ∃ ty, (xT cA)[t]? = some (cA t, ty) := by
    rcases (show t = 0 ∨ t = 1 ∨ t = 2 by omega) with rfl | rfl | rfl <;> exact ⟨_, rfl⟩
  have key := va_alen (ls := ls) (rest := st.map (xv b0 sz)) h2.1 h2.2.1 h4.1.1 h4.2.1 k t (xw_get hσ) hty (v := Int32.ofNat n) rfl hd (K p l e s m args below meth c H locs cells slots Z b0 sz cA D ls h1 h2 h3 h4 h5 h6 h7 h8 hE)
  rw [← xa_k (b := b0) hkk] at key
  exact key
theorem rj_iast {k n : Nat} {f : Nat → Int32} {i x : Int32} (hq : lk (mTab M) pc = some (.iastore, nx, a, b, c, cl)) (hσ : σ[k]? = some (.inl (0, n, .inl f))) (hin : vp_in i n) (K : RJ M X bc bs nx lv st (σ.set k (.inl (0, n, .inl (upd f i.toNatClampNeg x)))) Q) : RJ M X bc bs pc lv (.int x :: .int i :: .ref k :: st) σ Q := by
  intro p l e s m args below meth c H locs cells slots Z b0 sz cA D ls h1 h2 h3 h4 h5 h6 h7 h8 hE
  have hk := mOk_at h1 hq
  simp only [enOk, iLen, Bool.and_true, Bool.and_eq_true] at hk
  obtain ⟨hd, hn9⟩ := hk
  have hd := of_decide_eq_true hd
  have hn9 := of_decide_eq_true hn9
  subst hn9
  have hkk := σlt h4 hσ
  have key := va_iast (p := p) (l := l) (e := e) (R := mRm M) (s := s) (below := below) (meth := meth) (H0 := H) (cells := cells) (slots := slots) (Q := Z) (ls := ls) (rest := st.map (xv b0 sz)) (x := x) h2.1 h2.2.1 h4.1.1 h4.2.1 (xw_D σ) (xS_self h4) k 0 (xw_get hσ) rfl hin hd (fun H1 locs1 hP1 hD1 hS1 => xw_sized (sz := sz) h8 fun hz =>
    K p l e s m args below meth c H1 locs1 cells slots Z b0 sz cA D ls h1 h2 h3 (xw_stored h4 h8 hP1 hS1 hz) h5 h6 h7 (by rw [List.length_set]; exact h8) hE)
  rw [← xa_k (b := b0) hkk] at key
  exact key
theorem rj_last {k n : Nat} {f : Nat → Int64} {i : Int32} {x : Int64} (hq : lk (mTab M) pc = some (.lastore, nx, a, b, c, cl)) (hσ : σ[k]? = some (.inl (1, n, .inr (.inl f)))) (hin : vp_in i n) (K : RJ M X bc bs nx lv st (σ.set k (.inl (1, n, .inr (.inl (vp_updL f i.toNatClampNeg x))))) Q) : RJ M X bc bs pc lv (.long x :: .int i :: .ref k :: st) σ Q := by
  intro p l e s m args below meth c H locs cells slots Z b0 sz cA D ls h1 h2 h3 h4 h5 h6 h7 h8 hE
  have hk := mOk_at h1 hq
  simp only [enOk, iLen, Bool.and_true, Bool.and_eq_true] at hk
  obtain ⟨hd, hn9⟩ := hk
  have hd := of_decide_eq_true hd
  have hn9 := of_decide_eq_true hn9
  subst hn9
  have hkk := σlt h4 hσ
  have key := va_last (p := p) (l := l) (e := e) (R := mRm M) (s := s) (below := below) (meth := meth) (H0 := H) (cells := cells) (slots := slots) (Q := Z) (ls := ls) (rest := st.map (xv b0 sz)) (x := x) h2.1 h2.2.1 h4.1.1 h4.2.1 (xw_D σ) (xS_self h4) k 1 (xw_get hσ) rfl hin hd (fun H1 locs1 hP1 hD1 hS1 => xw_sized (sz := sz) h8 fun hz =>
    K p l e s m args below meth c H1 locs1 cells slots Z b0 sz cA D ls h1 h2 h3 (xw_stored h4 h8 hP1 hS1 hz) h5 h6 h7 (by rw [List.length_set]; exact h8) hE)
  rw [← xa_k (b := b0) hkk] at key
  exact key
theorem rj_aast {k n r ci : Nat} {fs : List Value} {f : Nat → Option Nat} {i : Int32} (hq : lk (mTab M) pc = some (.aastore, nx, a, b, c, cl)) (hσ : σ[k]? = some (.inl (2, n, .inr (.inr (.inr (.inr f)))))) (hin : vp_in i n) (hr : σ[r]? = some (.inr (2, fs))) (K : RJ M X bc bs nx lv st (σ.set k (.inl (2, n, .inr (.inr (.inr (.inr (va_up f i.toNatClampNeg (some r)))))))) Q) : RJ M X bc bs pc lv (.ref r :: .int i :: .ref k :: st) σ Q := by
  intro p l e s m args below meth c H locs cells slots Z b0 sz cA D ls h1 h2 h3 h4 h5 h6 h7 h8 hE
  have hk := mOk_at h1 hq
  simp only [enOk, iLen, Bool.and_true, Bool.and_eq_true] at hk
  obtain ⟨hd, hn9⟩ := hk
  have hd := of_decide_eq_true hd
  have hn9 := of_decide_eq_true hn9
  subst hn9
  have hkk := σlt h4 hσ
  have hrr := σlt h4 hr
  have key := va_astq (p := p) (l := l) (e := e) (R := mRm M) (s := s) (below := below) (meth := meth) (H0 := H) (cells := cells) (slots := slots) (Q := Z) (ls := ls) (rest := st.map (xv b0 sz)) h2.1 h2.2.1 h4.1.1 h4.2.1 (xw_D σ) (xS_self h4) k 2 r 2 (xw_get hσ) (r := (RX2, TX2, 5)) rfl (xw_get hr) rfl hin hd (fun H1 locs1 hP1 hD1 hS1 => xw_sized (sz := sz) h8 fun hz =>
    K p l e s m args below meth c H1 locs1 cells slots Z b0 sz cA D ls h1 h2 h3 (xw_stored h4 h8 (by
      rw [show xe b0 sz cA (.inl (2, n, .inr (.inr (.inr (.inr (va_up f i.toNatClampNeg (some r))))))) = .inl (cA 2, n, .inr (.inr (.inr (.inr (va_up (fun j => (f j).map (xa b0 sz)) i.toNatClampNeg (some (sz + r))))))) by
        simp only [xe, xr]
        congr 7
        funext j
        unfold va_up
        split
        · rw [← xa_k (b := b0) hrr]; rfl
        · rfl]
      exact hP1) hS1 hz) h5 h6 h7 (by rw [List.length_set]; exact h8) hE)
  rw [← xa_k (b := b0) hkk, ← xa_k (b := b0) hrr] at key
  exact key
end RjCells
end
section
/-! rows of the judgement: returns, the script, switches, new cells, calls -/
section RjRet
variable {M : MD} {X : Option (Nat × (Nat → Int32))} {bc bs pc nx a b : Nat} {c : Int32} {cl : Int64} {lv : List (Option Value)} {st : List Value} {σ : List va_E} {Q : Option Value → List va_E → Prop}
theorem rj_iret {x : Int32} (hq : lk (mTab M) pc = some (.ireturn, nx, a, b, c, cl)) (hr : mRet M = some .int) (h : Q (some (.int x)) σ) : RJ M X bc bs pc lv [.int x] σ Q := by
  intro p l e s m args below meth c H locs cells slots Z b0 sz cA D ls h1 h2 h3 h4 h5 h6 h7 h8 hE
  have hk := mOk_at h1 hq
  simp only [enOk, iLen, Bool.and_true, Bool.and_eq_true] at hk
  exact W.widen (by omega) (by omega) (hE (some (.int x)) σ H locs pc ls h h4 ⟨of_decide_eq_true hk.1, _, hr, rfl⟩)
theorem rj_zret {x : Int32} (hq : lk (mTab M) pc = some (.ireturn, nx, a, b, c, cl)) (hr : mRet M = some .boolean) (hn : x = 0 ∨ x = 1) (h : Q (some (.int x)) σ) : RJ M X bc bs pc lv [.int x] σ Q := by
  intro p l e s m args below meth c H locs cells slots Z b0 sz cA D ls h1 h2 h3 h4 h5 h6 h7 h8 hE
  have hk := mOk_at h1 hq
  simp only [enOk, iLen, Bool.and_true, Bool.and_eq_true] at hk
  exact W.widen (by omega) (by omega) (hE (some (.int x)) σ H locs pc ls h h4 ⟨of_decide_eq_true hk.1, _, hr, by rcases hn with rfl | rfl <;> rfl⟩)
theorem rj_lret {x : Int64} (hq : lk (mTab M) pc = some (.lreturn, nx, a, b, c, cl)) (hr : mRet M = some .long) (h : Q (some (.long x)) σ) : RJ M X bc bs pc lv [.long x] σ Q := by
  intro p l e s m args below meth c H locs cells slots Z b0 sz cA D ls h1 h2 h3 h4 h5 h6 h7 h8 hE
  have hk := mOk_at h1 hq
  simp only [enOk, iLen, Bool.and_true, Bool.and_eq_true] at hk
  exact W.widen (by omega) (by omega) (hE (some (.long x)) σ H locs pc ls h h4 ⟨of_decide_eq_true hk.1, hr⟩)
theorem rj_vret (hq : lk (mTab M) pc = some (.return_, nx, a, b, c, cl)) (hr : mRet M = none) (h : Q none σ) : RJ M X bc bs pc lv [] σ Q := by
  intro p l e s m args below meth c H locs cells slots Z b0 sz cA D ls h1 h2 h3 h4 h5 h6 h7 h8 hE
  have hk := mOk_at h1 hq
  simp only [enOk, iLen, Bool.and_true, Bool.and_eq_true] at hk
  exact W.widen (by omega) (by omega) (hE none σ H locs pc ls h h4 ⟨of_decide_eq_true hk.1, hr⟩)
/-- the script's values, its length -/
theorem rj_sld {L : Nat} {xs : Nat → Int32} {i : Int32} (hq : lk (mTab M) pc = some (.iaload, nx, a, b, c, cl)) (hin : vp_in i L) (K : RJ M (some (L, xs)) bc bs nx lv (.int (xs i.toNatClampNeg) :: st) σ Q) : RJ M (some (L, xs)) bc bs pc lv (.int i :: .ref 1000000 :: st) σ Q := by
  intro p l e s m args below meth c H locs cells slots Z b0 sz cA D ls h1 h2 h3 h4 h5 h6 h7 h8 hE
  have hk := mOk_at h1 hq
  simp only [enOk, iLen, Bool.and_true, Bool.and_eq_true] at hk
  obtain ⟨hd, hn9⟩ := hk
  have hd := of_decide_eq_true hd
  have hn9 := of_decide_eq_true hn9
  subst hn9
  exact va_sld (ls := ls) (rest := st.map (xv b0 sz)) h2.1 h2.2.1 h3.1 h3.2.1 (Nat.not_le.mpr h3.2.2) h4.2.2.1 hin hd (K p l e s m args below meth c H locs cells slots Z b0 sz cA D ls h1 h2 h3 h4 h5 h6 h7 h8 hE)
theorem rj_slen {L : Nat} {xs : Nat → Int32} (hq : lk (mTab M) pc = some (.arraylength, nx, a, b, c, cl)) (K : RJ M (some (L, xs)) bc bs nx lv (.int (Int32.ofNat L) :: st) σ Q) : RJ M (some (L, xs)) bc bs pc lv (.ref 1000000 :: st) σ Q := by
  intro p l e s m args below meth c H locs cells slots Z b0 sz cA D ls h1 h2 h3 h4 h5 h6 h7 h8 hE
  have hk := mOk_at h1 hq
  simp only [enOk, iLen, Bool.and_true, Bool.and_eq_true] at hk
  obtain ⟨hd, hn9⟩ := hk
  have hd := of_decide_eq_true hd
  have hn9 := of_decide_eq_true hn9
  subst hn9
  exact va_slen (ls := ls) (rest := st.map (xv b0 sz)) h2.1 h2.2.1 h3.1 h3.2.1 (Nat.not_le.mpr h3.2.2) h4.2.2.1 hd (K p l e s m args below meth c H locs cells slots Z b0 sz cA D ls h1 h2 h3 h4 h5 h6 h7 h8 hE)
theorem rj_tsIn {d lo hi : Int} {os : Array Int} {x : Int32} {off : Int} {tgt : Nat} (hq : lk (mTab M) pc = some (.tableswitch d lo hi os, nx, a, b, c, cl)) (h1 : ¬ x.toInt < lo) (h2 : ¬ hi < x.toInt) (ho : os[(x.toInt - lo).toNat]? = some off) (ht : (pc : Int) + off = (tgt : Int)) (K : RJ M X bc bs tgt lv st σ Q) : RJ M X bc bs pc lv (.int x :: st) σ Q := by
  intro p l e s m args below meth c H locs cells slots Z b0 sz cA D ls g1 g2 g3 g4 g5 g6 g7 g8 hE
  have hk := mOk_at g1 hq
  simp only [enOk] at hk
  exact lv_tableIn g2.1 g2.2.1 (of_decide_eq_true hk) h1 h2 ho ht (K p l e s m args below meth c H locs cells slots Z b0 sz cA D ls g1 g2 g3 g4 g5 g6 g7 g8 hE)
theorem rj_tsOut {d lo hi : Int} {os : Array Int} {x : Int32} {tgt : Nat} (hq : lk (mTab M) pc = some (.tableswitch d lo hi os, nx, a, b, c, cl)) (h : x.toInt < lo ∨ hi < x.toInt) (ht : (pc : Int) + d = (tgt : Int)) (K : RJ M X bc bs tgt lv st σ Q) : RJ M X bc bs pc lv (.int x :: st) σ Q := by
  intro p l e s m args below meth c H locs cells slots Z b0 sz cA D ls g1 g2 g3 g4 g5 g6 g7 g8 hE
  have hk := mOk_at g1 hq
  simp only [enOk] at hk
  exact lv_tableOut g2.1 g2.2.1 (of_decide_eq_true hk) h ht (K p l e s m args below meth c H locs cells slots Z b0 sz cA D ls g1 g2 g3 g4 g5 g6 g7 g8 hE)
theorem rj_ls {d : Int} {ps : Array (Int × Int)} {x : Int32} {off : Int} {tgt : Nat} (hq : lk (mTab M) pc = some (.lookupswitch d ps, nx, a, b, c, cl)) (ho : Op.lookupswitch.offset ps.toList d x.toInt = off) (ht : (pc : Int) + off = (tgt : Int)) (K : RJ M X bc bs tgt lv st σ Q) : RJ M X bc bs pc lv (.int x :: st) σ Q := by
  intro p l e s m args below meth c H locs cells slots Z b0 sz cA D ls g1 g2 g3 g4 g5 g6 g7 g8 hE
  have hk := mOk_at g1 hq
  simp only [enOk, Bool.and_eq_true] at hk
  exact lv_lookup g2.1 g2.2.1 (of_decide_eq_true hk.1) hk.2 ho ht (K p l e s m args below meth c H locs cells slots Z b0 sz cA D ls g1 g2 g3 g4 g5 g6 g7 g8 hE)
end RjRet
section RjNew
variable {M : MD} {X : Option (Nat × (Nat → Int32))} {bc bs pc nx a b : Nat} {c : Int32} {cl : Int64} {lv : List (Option Value)} {st : List Value} {σ : List va_E} {Q : Option Value → List va_E → Prop}
theorem va_at_lt {D : va_G} {cl : List vw_C} {q : Nat × va_E} {H : Heap} (h : va_at D cl q H) : q.1 < H.size := h.lt
/-- behind a new cell -/
theorem xw_grown {p : Program} {l : Launch} {ee : Env} {R : Room} {s : State} {m : MethodId} {args : Array Value} {below : List Frame} {meth : Method} {cc : Code} {locs : List Loc} {cells slots : Nat} {Z : State → Prop} {g : Nat → JFrame} {b sz q : Nat} {cA : Nat → ClassId} {D : va_G} {H H1 : Heap} {e : va_E} (h4 : XW b sz cA D σ s H locs) (h8 : s.heap.size + cells = sz + σ.length) (hlen : σ.length < 1000000)
    (hP1 : va_P D vwCl (xw b sz cA σ ++ [(q, xe b sz cA e)]) H1) (hD1 : va_D (fun q => sz ≤ q) (xw b sz cA σ ++ [(q, xe b sz cA e)])) (hS1 : va_S (fun q => sz ≤ q) s.heap H1 locs)
    (k : XW b sz cA D (σ ++ [e]) s H1 locs → W p l ee R s m args below meth cc H1 locs (cells + 1) slots Z (g (sz + σ.length))) : W p l ee R s m args below meth cc H1 locs (cells + 1) slots Z (g q) := by
  intro T hT St
  have hz := St.heapSize
  rw [hT] at hz
  have hx : (xw b sz cA σ ++ [(q, xe b sz cA e)])[σ.length]? = some (q, xe b sz cA e) := by
    rw [List.getElem?_append_right (by rw [xw_len]; exact Nat.le_refl _), xw_len, Nat.sub_self]; rfl
  have hlt := va_at_lt (hP1 _ _ hx)
  have hge := hD1.2 _ _ hx
  have hq : q = sz + σ.length := by
    have hq1 : q ≤ sz + σ.length := by
      have : q < H1.size := hlt
      omega
    have hq2 : sz ≤ q := hge
    by_cases hc : q = sz + σ.length
    · exact hc
    · exfalso
      have hlt2 : q - sz < σ.length := by omega
      have h9 : (xw b sz cA σ ++ [(q, xe b sz cA e)])[q - sz]? = some (sz + (q - sz), xe b sz cA (σ[q - sz])) := by
        rw [List.getElem?_append_left (by rw [xw_len]; exact hlt2)]
        exact xw_get (List.getElem?_eq_getElem hlt2)
      have := hD1.1 _ _ _ _ h9 hx (by show sz + (q - sz) = q; omega)
      omega
  subst hq
  refine k ⟨h4.1, by rw [xw_push]; exact hP1, hS1, ?_, h4.2.2.2.2.1, by rw [List.length_append]; exact hlen⟩ T hT St
  have : sz + σ.length < H1.size := hlt
  rw [List.length_append]
  show H1.size = sz + (σ.length + 1)
  omega
theorem rj_new {i : Nat} {fs : List Value} (hq : lk (mTab M) pc = some (.new i, nx, a, b, c, cl)) {C : String} {T : u_T} {N : Nat} (hc : vwCl[a]? = some (C, T, N)) (hfs : (tyTab[a]?.map (fun l => l.map (fun q => defaultValue q.2))) = some fs) (hfl : ∀ b sz, fs.map (xv b sz) = fs) (hw : decide (Jvm.Cond.classLink (mY M).cls i C ∈ lw_tbl) && decide (Jvm.Cond.instantiable C N ∈ lw_tbl) && decide (Jvm.Cond.initialized C ∈ lw_tbl) = true) (hlen : σ.length < 1000000) (hbc : 1 ≤ bc) (hbs : N ≤ bs)
    (K : RJ M X (bc - 1) (bs - N) nx lv (.ref σ.length :: st) (σ ++ [.inr (a, fs)]) Q) : RJ M X bc bs pc lv st σ Q := by
  intro p l e s m args below meth c H locs cells slots Z b0 sz cA D ls h1 h2 h3 h4 h5 h6 h7 h8 hE
  have hk := mOk_at h1 hq
  simp only [enOk, iLen, Bool.and_true, Bool.and_eq_true] at hk
  obtain ⟨hd, hn9⟩ := hk
  have hd := of_decide_eq_true hd
  have hn9 := of_decide_eq_true hn9
  subst hn9
  simp only [Bool.and_eq_true, decide_eq_true_eq] at hw
  obtain ⟨⟨w1, w2⟩, w3⟩ := hw
  obtain ⟨t1, t2, t3⟩ := ty_at (b := 0) hc
  refine va_new (p := p) (l := l) (e := e) (R := mRm M) (s := s) (below := below) (meth := meth) (H0 := s.heap) (Q := Z) (ls := ls) (rest := st.map (xv b0 sz)) (fs := fs) h2.1 h2.2.1 h2.2.2.2.2.2.1 (vw_in hc) _ t1 h2.2.2.2.2.1 (h2.w w1 rfl) (h2.w w2 rfl) (h2.w w3 rfl) h4.1.1 h4.2.1 (xw_D σ) h4.2.2.1 (fun q hq => Nat.le_trans h4.2.2.2.2.1 hq) hc ?_ (by omega) (by omega) hd (fun q H1 hP1 hD1 hS1 => ?_)
  · intro j hj
    cases hl : tyTab[a]? with
    | none => rw [hl] at hfs; cases hfs
    | some l =>
      rw [hl] at hfs t3
      have hfs : l.map (fun q => defaultValue q.2) = fs := Option.some.inj hfs
      obtain ⟨hlN, -⟩ : l.length = N ∧ True := by
        have hA : a < 12 := (List.getElem?_eq_some_iff.mp hc).1
        have g1 := List.all_eq_true.mp tyTab_ok a (List.mem_range.mpr hA)
        rw [hc, hl] at g1
        simp only [Bool.and_eq_true] at g1
        exact ⟨of_decide_eq_true g1.1, trivial⟩
      have hjl : j < l.length := by omega
      obtain ⟨-, -, g3⟩ := t3 j _ _ (show l[j]? = some ((l[j]).1, (l[j]).2) by rw [List.getElem?_eq_getElem hjl])
      rw [g3, ← hfs]
      simp [vp_V, hjl]
  · have hxe : xe b0 sz cA (.inr (a, fs)) = .inr (a, fs) := by simp only [xe, hfl]
    refine xw_grown (g := fun q => F0 m (pc + 3) ls (.ref q :: st.map (xv b0 sz))) (e := .inr (a, fs)) h4 h8 hlen (by rw [hxe]; exact hP1) (by rw [hxe]; exact hD1) hS1 (fun h4' => ?_)
    have key := K p l e s m args below meth c H1 locs (cells + 1) (slots + N) Z b0 sz cA D ls h1 h2 h3 h4' h5 (by omega) (by omega) (by rw [List.length_append]; show s.heap.size + (cells + 1) = sz + (σ.length + 1); omega) hE
    rw [← xa_k (b := b0) hlen]
    exact key
end RjNew
end
section
/-! rows of the judgement: new arrays, Object's constructor, the copy of an array -/
theorem arrI : Jvm.Cond.arrayClass .int ∈ lw_tbl := by decide +kernel
theorem arrL : Jvm.Cond.arrayClass .long ∈ lw_tbl := by decide +kernel
theorem arrE : Jvm.Cond.arrayOver (.object "SpeltRoutes$Expression") ∈ lw_tbl := by decide +kernel
section RjArr
variable {M : MD} {X : Option (Nat × (Nat → Int32))} {bc bs pc nx a b : Nat} {c : Int32} {cl : Int64} {lv : List (Option Value)} {st : List Value} {σ : List va_E} {Q : Option Value → List va_E → Prop}
theorem rj_newI {n : Int32} {N : Nat} (hq : lk (mTab M) pc = some (.newarray .int, nx, a, b, c, cl)) (hn : ¬ n < 0) (hN : n.toNatClampNeg = N) (hby : N ≤ 100000) (hlen : σ.length < 1000000) (hbc : 1 ≤ bc) (hbs : N ≤ bs)
    (K : RJ M X (bc - 1) (bs - N) nx lv (.ref σ.length :: st) (σ ++ [.inl (0, N, .inl (fun _ => 0))]) Q) : RJ M X bc bs pc lv (.int n :: st) σ Q := by
  intro p l e s m args below meth c H locs cells slots Z b0 sz cA D ls h1 h2 h3 h4 h5 h6 h7 h8 hE
  have hk := mOk_at h1 hq
  simp only [enOk, iLen, Bool.and_true, Bool.and_eq_true] at hk
  obtain ⟨hd, hn9⟩ := hk
  have hd := of_decide_eq_true hd
  have hn9 := of_decide_eq_true hn9
  subst hn9
  refine va_newa (p := p) (l := l) (e := e) (R := mRm M) (s := s) (below := below) (meth := meth) (H0 := s.heap) (Q := Z) (ls := ls) (rest := st.map (xv b0 sz)) (atype := .int) (a0 := (N, .inl (fun _ => 0))) h2.1 h2.2.1 (h2.w arrI rfl) (ty := .int) rfl h4.1.1 h4.2.1 (xw_D σ) h4.2.2.1 (fun q hq => Nat.le_trans h4.2.2.2.2.1 hq) (fun _ => rfl) hn hN (by show N * 4 ≤ 536870912; omega) (by omega) (by omega) hd (fun q cA' H1 hK1 hP1 hD1 hS1 => ?_)
  have e1 : cA' = cA 0 := by
    have g1 := (h4.1.1.2 0 _ rfl).2
    have g2 := (hK1.2 3 _ rfl).2
    exact Option.some.inj (g2.symm.trans g1)
  subst e1
  refine xw_grown (g := fun q => F0 m (pc + 2) ls (.ref q :: st.map (xv b0 sz))) (e := .inl (0, N, .inl (fun _ => 0))) h4 h8 hlen hP1 hD1 hS1 (fun h4' => ?_)
  have key := K p l e s m args below meth c H1 locs (cells + 1) (slots + N) Z b0 sz cA D ls h1 h2 h3 h4' h5 (by omega) (by omega) (by rw [List.length_append]; show s.heap.size + (cells + 1) = sz + (σ.length + 1); omega) hE
  rw [← xa_k (b := b0) hlen]
  exact key
theorem rj_newL {n : Int32} {N : Nat} (hq : lk (mTab M) pc = some (.newarray .long, nx, a, b, c, cl)) (hn : ¬ n < 0) (hN : n.toNatClampNeg = N) (hby : N ≤ 100000) (hlen : σ.length < 1000000) (hbc : 1 ≤ bc) (hbs : N ≤ bs)
    (K : RJ M X (bc - 1) (bs - N) nx lv (.ref σ.length :: st) (σ ++ [.inl (1, N, .inr (.inl (fun _ => 0)))]) Q) : RJ M X bc bs pc lv (.int n :: st) σ Q := by
  intro p l e s m args below meth c H locs cells slots Z b0 sz cA D ls h1 h2 h3 h4 h5 h6 h7 h8 hE
  have hk := mOk_at h1 hq
  simp only [enOk, iLen, Bool.and_true, Bool.and_eq_true] at hk
  obtain ⟨hd, hn9⟩ := hk
  have hd := of_decide_eq_true hd
  have hn9 := of_decide_eq_true hn9
  subst hn9
  refine va_newa (p := p) (l := l) (e := e) (R := mRm M) (s := s) (below := below) (meth := meth) (H0 := s.heap) (Q := Z) (ls := ls) (rest := st.map (xv b0 sz)) (atype := .long) (a0 := (N, .inr (.inl (fun _ => 0)))) h2.1 h2.2.1 (h2.w arrL rfl) (ty := .long) rfl h4.1.1 h4.2.1 (xw_D σ) h4.2.2.1 (fun q hq => Nat.le_trans h4.2.2.2.2.1 hq) (fun _ => rfl) hn hN (by show N * 8 ≤ 536870912; omega) (by omega) (by omega) hd (fun q cA' H1 hK1 hP1 hD1 hS1 => ?_)
  have e1 : cA' = cA 1 := by
    have g1 := (h4.1.1.2 1 _ rfl).2
    have g2 := (hK1.2 3 _ rfl).2
    exact Option.some.inj (g2.symm.trans g1)
  subst e1
  refine xw_grown (g := fun q => F0 m (pc + 2) ls (.ref q :: st.map (xv b0 sz))) (e := .inl (1, N, .inr (.inl (fun _ => 0)))) h4 h8 hlen hP1 hD1 hS1 (fun h4' => ?_)
  have key := K p l e s m args below meth c H1 locs (cells + 1) (slots + N) Z b0 sz cA D ls h1 h2 h3 h4' h5 (by omega) (by omega) (by rw [List.length_append]; show s.heap.size + (cells + 1) = sz + (σ.length + 1); omega) hE
  rw [← xa_k (b := b0) hlen]
  exact key
theorem rj_newE {i : Nat} {n : Int32} {N : Nat} (hq : lk (mTab M) pc = some (.anewarray i, nx, a, b, c, cl)) (hw : Jvm.Cond.classLink (mY M).cls i "SpeltRoutes$Expression" ∈ lw_tbl) (hn : ¬ n < 0) (hN : n.toNatClampNeg = N) (hby : N ≤ 100000) (hlen : σ.length < 1000000) (hbc : 1 ≤ bc) (hbs : N ≤ bs)
    (K : RJ M X (bc - 1) (bs - N) nx lv (.ref σ.length :: st) (σ ++ [.inl (2, N, .inr (.inr (.inr (.inr (fun _ => none)))))]) Q) : RJ M X bc bs pc lv (.int n :: st) σ Q := by
  intro p l e s m args below meth c H locs cells slots Z b0 sz cA D ls h1 h2 h3 h4 h5 h6 h7 h8 hE
  have hk := mOk_at h1 hq
  simp only [enOk, iLen, Bool.and_true, Bool.and_eq_true] at hk
  obtain ⟨hd, hn9⟩ := hk
  have hd := of_decide_eq_true hd
  have hn9 := of_decide_eq_true hn9
  subst hn9
  refine va_newq (p := p) (l := l) (e := e) (R := mRm M) (s := s) (below := below) (meth := meth) (H0 := s.heap) (Q := Z) (ls := ls) (rest := st.map (xv b0 sz)) h2.1 h2.2.1 h2.2.2.2.2.1 (h2.w hw rfl) (h4.1.2 _ arrE rfl) h4.1.1 h4.2.1 (xw_D σ) h4.2.2.1 (fun q hq => Nat.le_trans h4.2.2.2.2.1 hq) hn hN (by omega) (by omega) (by omega) hd (fun q cA' H1 hK1 hP1 hD1 hS1 => ?_)
  have e1 : cA' = cA 2 := by
    obtain ⟨_, _, -, -, -, g1⟩ := (h4.1.1.2 2 _ rfl).2
    obtain ⟨_, _, -, -, -, g2⟩ := (hK1.2 3 _ rfl).2
    exact Option.some.inj (g2.symm.trans g1)
  subst e1
  refine xw_grown (g := fun q => F0 m (pc + 3) ls (.ref q :: st.map (xv b0 sz))) (e := .inl (2, N, .inr (.inr (.inr (.inr (fun _ => none)))))) h4 h8 hlen hP1 hD1 hS1 (fun h4' => ?_)
  have key := K p l e s m args below meth c H1 locs (cells + 1) (slots + N) Z b0 sz cA D ls h1 h2 h3 h4' h5 (by omega) (by omega) (by rw [List.length_append]; show s.heap.size + (cells + 1) = sz + (σ.length + 1); omega) hE
  rw [← xa_k (b := b0) hlen]
  exact key
theorem objIn : Jvm.Cond.instanceMethod objectInit ∈ lw_tbl := by decide +kernel
theorem objCode : Jvm.Cond.code objectInit ⟨#[0xb1]⟩ 1 none ∈ lw_tbl := by decide +kernel
def catSum (st : List Value) : Nat := (st.map fun v => v.category).sum
theorem catSum_x (b sz : Nat) (st : List Value) : ((st.map (xv b sz)).map fun v => v.category).sum = catSum st := by
  unfold catSum
  rw [List.map_map]
  congr 1
  apply List.map_congr_left
  intro v _
  exact xv_cat b sz v
theorem rj_obj {i k : Nat} (hq : lk (mTab M) pc = some (.invokespecial i, nx, a, b, c, cl)) (hw : Jvm.Cond.methodLink (mY M).cls i objectInit ∈ lw_tbl) (hf : 1 ≤ (mRm M).frames) (hl : catSum st + 12 ≤ (mRm M).locals) (K : RJ M X bc bs nx lv st σ Q) : RJ M X bc bs pc lv (.ref k :: st) σ Q := by
  intro p l e s m args below meth c H locs cells slots Z b0 sz cA D ls h1 h2 h3 h4 h5 h6 h7 h8 hE
  have hk := mOk_at h1 hq
  simp only [enOk, iLen, Bool.and_true, Bool.and_eq_true] at hk
  obtain ⟨hd, hn9⟩ := hk
  have hd := of_decide_eq_true hd
  have hn9 := of_decide_eq_true hn9
  subst hn9
  refine W.objInit h2.1 h2.2.1 h2.2.2.2.2.1 (h2.w hw rfl) (h2.w objIn rfl) (h2.w objCode rfl) rfl (by rw [h2.2.2.2.1]; exact h5.1) rfl hd hf (by rw [catSum_x]; show 2 * 0 + _ + 12 ≤ _; omega) ?_
  exact K p l e s m args below meth c H locs cells slots Z b0 sz cA D ls h1 h2 h3 h4 h5 h6 h7 h8 hE
theorem copyW : (decide (Jvm.Cond.native arraycopyName ∈ lw_tbl) && decide (Jvm.Cond.static arraycopyName ∈ lw_tbl) && decide (Jvm.Cond.initialized "java/lang/System" ∈ lw_tbl)) = true := by decide +kernel
theorem rj_copy {i k0 k1 n0 n1 : Nat} {f g : Nat → Int32} {sp dp n : Int32} (hq : lk (mTab M) pc = some (.invokestatic i, nx, a, b, c, cl)) (hw : Jvm.Cond.methodLink (mY M).cls i arraycopyName ∈ lw_tbl) (hσ0 : σ[k0]? = some (.inl (0, n0, .inl f))) (hσ1 : σ[k1]? = some (.inl (0, n1, .inl g)))
    (g1 : ¬ sp < 0) (g2 : ¬ dp < 0) (g3 : ¬ n < 0) (g4 : sp.toNatClampNeg + n.toNatClampNeg ≤ n0) (g5 : dp.toNatClampNeg + n.toNatClampNeg ≤ n1) (hf : 1 ≤ (mRm M).frames) (hl : catSum st + (nativeFrameWords "java/lang/System" "arraycopy" 5 + 11) ≤ (mRm M).locals)
    (K : RJ M X bc bs nx lv st (σ.set k1 (.inl (0, n1, .inl (va_cpy f g sp.toNatClampNeg dp.toNatClampNeg n.toNatClampNeg)))) Q) : RJ M X bc bs pc lv (.int n :: .int dp :: .ref k1 :: .int sp :: .ref k0 :: st) σ Q := by
  intro p l e s m args below meth c H locs cells slots Z b0 sz cA D ls h1 h2 h3 h4 h5 h6 h7 h8 hE
  have hk := mOk_at h1 hq
  simp only [enOk, iLen, Bool.and_true, Bool.and_eq_true] at hk
  obtain ⟨hd, hn9⟩ := hk
  have hd := of_decide_eq_true hd
  have hn9 := of_decide_eq_true hn9
  subst hn9
  have hk0 := σlt h4 hσ0
  have hk1 := σlt h4 hσ1
  have cw := copyW
  simp only [Bool.and_eq_true, decide_eq_true_eq] at cw
  have key := va_copyi (p := p) (l := l) (e := e) (R := mRm M) (s := s) (below := below) (meth := meth) (H0 := H) (cells := cells) (slots := slots) (Q := Z) (ls := ls) (rest := st.map (xv b0 sz)) (sp := sp) (dp := dp) (n := n) h2.1 h2.2.1 (by rw [h2.2.2.2.1]; exact h5.1.symm) h2.2.2.2.2.1 (h2.w hw rfl) (h2.w cw.1.1 rfl) (h2.w cw.1.2 rfl) (h2.w cw.2 rfl) h4.1.1 h4.2.1 (xw_D σ) (xS_self h4) k0 k1 0 0 (xw_get hσ0) (xw_get hσ1) (ty := .int) rfl rfl rfl g1 g2 g3 g4 g5 (fun _ _ => rfl) hf (by rw [catSum_x]; exact hl) hd (fun H1 locs1 hP1 hD1 hS1 => xw_sized (sz := sz) h8 fun hz =>
    K p l e s m args below meth c H1 locs1 cells slots Z b0 sz cA D ls h1 h2 h3 (xw_stored h4 h8 hP1 hS1 hz) h5 h6 h7 (by rw [List.length_set]; exact h8) hE)
  rw [← xa_k (b := b0) hk0, ← xa_k (b := b0) hk1] at key
  exact key
end RjArr
end
section
/-! a method's contract out of the judgement, and the calls -/
def lvA (As : List Value) : List (Option Value) := As.flatMap (fun v => if v.category = 2 then [some v, none] else [some v])
def lvArgs (n : Nat) (As : List Value) : List (Option Value) := lvA As ++ List.replicate (n - (lvA As).length) none
theorem lvA_sl (b sz : Nat) (As : List Value) : lg_sl (As.map (xv b sz)) = (lvA As).map (fun o => match o with | some v => Slot.val (xv b sz v) | none => .second) := by
  induction As with
  | nil => rfl
  | cons v t ih =>
    have e1 : lg_sl ((v :: t).map (xv b sz)) = (if (xv b sz v).category = 2 then [Slot.val (xv b sz v), .second] else [.val (xv b sz v)]) ++ lg_sl (t.map (xv b sz)) := rfl
    have e2 : lvA (v :: t) = (if v.category = 2 then [some v, none] else [some v]) ++ lvA t := rfl
    rw [e1, e2, ih, List.map_append, xv_cat]
    by_cases h : v.category = 2
    · rw [if_pos h, if_pos h]; rfl
    · rw [if_neg h, if_neg h]; rfl
theorem hasL_entry (b sz n : Nat) (As : List Value) (h : (lvA As).length ≤ n) : hasL b sz ((lg_sl (As.map (xv b sz)) ++ List.replicate (n - (lg_sl (As.map (xv b sz))).length) Slot.unset).toArray) n (lvArgs n As) := by
  have hlen : (lg_sl (As.map (xv b sz))).length = (lvA As).length := by rw [lvA_sl, List.length_map]
  have h1 := lv_entry (As.map (xv b sz)) (n := n) (by rw [hlen]; exact h)
  refine ⟨h1.1, by simp [lvArgs]; omega, h1.2.1, fun k v hk => ?_⟩
  unfold lvArgs at hk
  by_cases hkl : k < (lvA As).length
  · rw [List.getElem?_append_left hkl] at hk
    rw [List.getElem?_toArray, List.getElem?_append_left (by rw [hlen]; exact hkl), lvA_sl, List.getElem?_map, hk]
    rfl
  · rw [List.getElem?_append_right (by omega), List.getElem?_replicate] at hk
    split at hk <;> cases hk
/-- a contract's end -/
def xQ (b sz : Nat) (cA : Nat → ClassId) (D : va_G) (Q : Option Value → List va_E → Prop) : Array Value → State → Outcome → State → Prop := fun _ st o t =>
  ∃ (v : Option Value) (σ' : List va_E), o = .returned (v.map (xv b sz)) ∧ Q v σ' ∧ va_P D vwCl (xw b sz cA σ') t.heap ∧ t.heap.size = sz + σ'.length ∧ σ'.length ≤ 1000000 ∧ va_F (fun q => sz ≤ q) st t
/-- a contract's start -/
def xP (b sz : Nat) (cA : Nat → ClassId) (D : va_G) (As : List Value) (σ : List va_E) : Array Value → State → Prop :=
  va_Pc (As.map (xv b sz)) (fun U => xK D cA U ∧ va_P D vwCl (xw b sz cA σ) U.heap ∧ U.heap.size = sz + σ.length ∧ σ.length ≤ 1000000)
theorem met_of {M : MD} {σ : List va_E} {Q : Option Value → List va_E → Prop} (l : Launch) (b sz : Nat) (cA : Nat → ClassId) (D : va_G) (As : List Value) (hpl : plainName (mY M).cls = true) (hok : mOk M = true) (hAs : (lvA As).length ≤ mML M)
    (h : RJ M none (mRm M).cells (mRm M).slots 0 (lvArgs (mML M) As) [] σ Q) :
    Met l (mY M) (mWs M) (mRm M) (xP b sz cA D As σ) (xQ b sz cA D Q) (mRm M).cells (mRm M).slots (fun q => sz ≤ q) := by
  refine Met.ofW (cc := mCode M) (maxL := mML M) (ret := mRet M) hpl rfl ?_
  intro p e s m args below meth c s₁ B hml hv
  obtain ⟨rfl, hK, hP, hsz, hlen⟩ := hv
  have hts := atoms_spec (ws := mWs M) B.pre
  have hXC : XC p s m (As.map (xv b sz)).toArray meth c M := ⟨B.exec, B.bytes, B.returns, hml, findClass_of_methodNamed B.named, fun w hw => hts w (List.mem_cons_of_mem _ hw), B.notSynchronized, (name_of_methodNamed B.named B.method).1⟩
  rw [lg_entry_eq]
  have hl := hasL_entry b sz (mML M) As hAs
  refine h p l e s m (As.map (xv b sz)).toArray below meth c s.heap [] 0 0 _ b sz cA D _ hok hXC trivial ⟨hK, hP, va_S.rf, hsz, by rw [hsz]; exact Nat.le_add_right _ _, hlen⟩ hl (by omega) (by omega) (by rw [hsz]; rfl) ?_
  intro v σ' H' locs' pc' ls' hQ hW hr
  have hlocks := hXC.2.2.2.2.2.2.1
  have post : ∀ t : State, t.heap = H' → xQ b sz cA D Q (As.map (xv b sz)).toArray s (.returned (v.map (xv b sz))) t := fun t ht => ⟨v, σ', rfl, hQ, by rw [ht]; exact hW.2.1, by rw [ht]; exact hW.2.2.2.1, hW.2.2.2.2.2, hW.2.2.1.F ht⟩
  match v, hr, post with
  | none, hr, post => exact W.vret hXC.1 hXC.2.1 (hXC.2.2.1.trans hr.2) (fun t ht _ => post t ht) hW.2.2.1.2.2 hr.1
  | some (.int x), hr, post =>
    obtain ⟨hd, ty, e1, e2⟩ := hr
    exact W.zret hXC.1 hXC.2.1 (hXC.2.2.1.trans e1) e2 (fun t ht _ => post t ht) hW.2.2.1.2.2 hd
  | some (.long x), hr, post => exact W.lret hXC.1 hXC.2.1 (hXC.2.2.1.trans hr.2) (fun t ht _ => post t ht) hW.2.2.1.2.2 hr.1
  | some (.float _), hr, _ => exact hr.elim
  | some (.double _), hr, _ => exact hr.elim
  | some .null, hr, _ => exact hr.elim
  | some (.ref _), hr, _ => exact hr.elim
  | some (.retAddr _), hr, _ => exact hr.elim
theorem xP_blind {b sz : Nat} {cA : Nat → ClassId} {D : va_G} {As : List Value} {σ : List va_E} : FrameBlind (xP b sz cA D As σ) := by
  intro a U g mk h
  obtain ⟨h1, ⟨h2, h3⟩, h4⟩ := h
  exact ⟨h1, ⟨va_K.moved (u := U) (U := U.calling g mk a) (Vm.Alike.refl U.vm) h2, fun w hw hn => by
    have h5 := h3 w hw hn
    cases w with
    | methodLinkNest a0 i x hh => exact va_Nw.same rfl (rfl : U.vm = (U.calling g mk a).vm) h5
    | arrayOver ty => cases ty with
      | object C => exact va_AO.moved (u := U) (U := U.calling g mk a) (Vm.Alike.refl U.vm) h5
      | _ => cases hn
    | _ => cases hn⟩, h4⟩
theorem xK_warm {D : va_G} {cA : Nat → ClassId} {s U : State} (hW : s.WarmedH U.vm) (h : xK D cA s) : xK D cA U := ⟨va_K.moved hW.alike h.1, xN_warm hW h.2⟩
/-- the words of a call, its room -/
def cOk (M : MD) (n : Nat) (Mc : MD) : Bool := decide (Jvm.Cond.code (mY Mc) (mCode Mc) (mML Mc) (mRet Mc) ∈ lw_tbl) && decide (Jvm.Cond.initialized (mY Mc).cls ∈ lw_tbl) && decide ((mY Mc).cls ≠ "java/lang/invoke/MethodHandle") && decide ((mY Mc).cls ≠ "java/lang/invoke/VarHandle") && decide ((parseMethodDescriptor (mY Mc).desc).map (fun d => d.parameters.length) = some n) && decide ((mRm Mc).frames + 1 ≤ (mRm M).frames) && decide (8 + (mML Mc + 11) + (mRm Mc).locals ≤ (mRm M).locals) && plainName (mY Mc).cls
def cvOk (M : MD) (i n : Nat) (Mc : MD) : Bool := cOk M n Mc && decide (Jvm.Cond.methodLink (mY M).cls i (mY Mc) ∈ lw_tbl) && decide (Jvm.Cond.instanceMethod (mY Mc) ∈ lw_tbl) && decide (Jvm.Cond.selects (mY Mc).cls (mY Mc) (mY Mc) ∈ lw_tbl)
def csOk (M : MD) (i n : Nat) (Mc : MD) : Bool := cOk M n Mc && decide (Jvm.Cond.methodLink (mY M).cls i (mY Mc) ∈ lw_tbl) && decide (Jvm.Cond.static (mY Mc) ∈ lw_tbl)
def ciOk (M : MD) (i n : Nat) (Mc : MD) : Bool := cOk M n Mc && decide (Jvm.Cond.methodLink (mY M).cls i (mY Mc) ∈ lw_tbl) && decide (Jvm.Cond.instanceMethod (mY Mc) ∈ lw_tbl) && decide ((mY Mc).name = "<init>") && decide (mRet Mc = none)
def cnOk (M : MD) (i n : Nat) (Mc : MD) (host : String) : Bool := cOk M n Mc && decide (Jvm.Cond.methodLinkNest (mY M).cls i (mY Mc) host ∈ lw_tbl) && decide (Jvm.Cond.instanceMethod (mY Mc) ∈ lw_tbl) && decide ((mY Mc).name = "<init>") && decide (mRet Mc = none)
theorem xGood (M : MD) (h : Jvm.Cond.code (mY M) (mCode M) (mML M) (mRet M) ∈ lw_tbl) : GoodIn xTbl (mWs M) := by
  intro w hw
  rcases List.mem_cons.mp hw with rfl | hw
  · exact ⟨List.mem_filter.mpr ⟨h, rfl⟩, good_of_word rfl⟩
  · exact ⟨hw, good_of_word (List.mem_filter.mp hw).2⟩
section RjCall
variable {M Mc : MD} {X : Option (Nat × (Nat → Int32))} {bc bs pc nx b : Nat} {c : Int32} {cl : Int64} {lv : List (Option Value)} {st : List Value} {σ : List va_E} {Q : Option Value → List va_E → Prop}
theorem cOk_e {n : Nat} (h : cOk M n Mc = true) : Jvm.Cond.code (mY Mc) (mCode Mc) (mML Mc) (mRet Mc) ∈ lw_tbl ∧ Jvm.Cond.initialized (mY Mc).cls ∈ lw_tbl ∧ ((mY Mc).cls ≠ "java/lang/invoke/MethodHandle" ∧ (mY Mc).cls ≠ "java/lang/invoke/VarHandle" ∧ (parseMethodDescriptor (mY Mc).desc).map (fun d => d.parameters.length) = some n) ∧ ((mRm Mc).frames + 1 ≤ (mRm M).frames ∧ 8 + (mML Mc + 11) + (mRm Mc).locals ≤ (mRm M).locals) ∧ plainName (mY Mc).cls = true := by
  unfold cOk at h
  simp only [Bool.and_eq_true, decide_eq_true_eq] at h
  obtain ⟨⟨⟨⟨⟨⟨⟨a1, a2⟩, a3⟩, a4⟩, a5⟩, a6⟩, a7⟩, a8⟩ := h
  exact ⟨a1, a2, ⟨a3, a4, a5⟩, ⟨a6, a7⟩, a8⟩
/-- what follows a call, once it has run -/
theorem rj_run {p : Program} {l : Launch} {e : Env} {s : State} {m : MethodId} {args : Array Value} {below : List Frame} {meth : Method} {c : Code} {H : Heap} {locs : List Loc} {cells slots : Nat} {Z : State → Prop} {b0 sz : Nat} {cA : Nat → ClassId} {D : va_G} {ls : Array Slot} {st0 rest : List Value} {aa : Array Value}
    (hr : va_Run p l e (mRm M) s m args below meth c H locs cells slots (mRm Mc).cells (mRm Mc).slots (F0 m pc ls st0) (rest.map (xv b0 sz)) (xQ b0 sz cA D (fun v σ' => σ'.length = σ.length + (mRm Mc).cells ∧ RJ M X (bc - (mRm Mc).cells) (bs - (mRm Mc).slots) (pc + 3) lv (v.toList ++ rest) σ' Q) aa) (fun q => sz ≤ q))
    (hbc : (mRm Mc).cells ≤ bc) (hbs : (mRm Mc).slots ≤ bs) (h1 : mOk M = true) (h2 : XC p s m args meth c M) (h3 : XX X b0 sz s) (h4 : XW b0 sz cA D σ s H locs) (h5 : hasL b0 sz ls (mML M) lv) (h6 : cells + bc = (mRm M).cells) (h7 : slots + bs = (mRm M).slots) (h8 : s.heap.size + cells = sz + σ.length)
    (hE : ∀ (v : Option Value) (σ' : List va_E) (H' : Heap) (locs' : List Loc) (pc' : Nat) (ls' : Array Slot), Q v σ' → XW b0 sz cA D σ' s H' locs' → mRetAt M pc' v → W p l e (mRm M) s m args below meth c H' locs' (mRm M).cells (mRm M).slots Z (F0 m pc' ls' (v.toList.map (xv b0 sz)))) : W p l e (mRm M) s m args below meth c H locs cells slots Z (F0 m pc ls st0) := by
  intro T hT St
  obtain ⟨v, st₀, t, T', L, g0, St', hL, e1, e2, ⟨v', σ', hv, ⟨hlen, hK⟩, hP, hz, hl, hF⟩, go⟩ := hr T hT St
  cases hv
  rw [e1.symm] at hP hz
  have hF1 : H.size ≤ T'.heap.size := by rw [← g0, e1]; exact hF.1
  have hF2 : ∀ q, q < H.size → ¬ sz ≤ q → T'.heap[q]? = H[q]? := fun q hq hn => by
    have := hF.2 q (by rw [g0]; exact hq) hn
    rw [e1, this, g0]
  have hXW : XW b0 sz cA D σ' s T'.heap (locs ++ L) := by
    refine ⟨h4.1, hP, ⟨Nat.le_trans h4.2.2.1.1 hF1, fun q hq hn => (hF2 q (Nat.lt_of_lt_of_le hq h4.2.2.1.1) hn).trans (h4.2.2.1.2.1 q hq hn), fun q hq => ?_⟩, hz, h4.2.2.2.2.1, hl⟩
    rcases List.mem_append.mp hq with hq | hq
    · exact h4.2.2.1.2.2 q hq
    · exact hL q hq
  have key := hK p l e s m args below meth c T'.heap (locs ++ L) (cells + (mRm Mc).cells) (slots + (mRm Mc).slots) Z b0 sz cA D ls h1 h2 h3 hXW h5 (by omega) (by omega) (by rw [hlen]; omega) hE
  obtain ⟨t2, a1, b1⟩ := key T' rfl St'
  refine ⟨t2, go t2 ?_, b1⟩
  have : (v'.map (xv b0 sz)).toList ++ rest.map (xv b0 sz) = (v'.toList ++ rest).map (xv b0 sz) := by cases v' <;> rfl
  rw [this]
  exact a1
theorem st_split {st : List Value} {n k : Nat} (h : ng st n = some (.ref k)) : st = (st.take n).reverse.reverse ++ .ref k :: st.drop (n + 1) ∧ (st.take n).reverse.length = n := by
  rw [ng_eq] at h
  obtain ⟨hl, hk⟩ := List.getElem?_eq_some_iff.mp h
  refine ⟨?_, by simp; omega⟩
  rw [List.reverse_reverse, ← hk, List.getElem_cons_drop, List.take_append_drop]
theorem rj_callV {i n k ci : Nat} {fs : List Value} (Mc : MD) (hq : lk (mTab M) pc = some (.invokevirtual i, nx, n, b, c, cl)) (hc : cvOk M i n Mc = true) (hk : ng st n = some (.ref k)) (hσ : σ[k]? = some (.inr (ci, fs))) (hci : (vwCl[ci]?.map (·.1)) = some (mY Mc).cls) (hrest : catSum (st.drop (n + 1)) ≤ 8) (hok : mOk Mc = true) (hAs : (lvA (.ref k :: (st.take n).reverse)).length ≤ mML Mc) (hbc : (mRm Mc).cells ≤ bc) (hbs : (mRm Mc).slots ≤ bs)
    (K : RJ Mc none (mRm Mc).cells (mRm Mc).slots 0 (lvArgs (mML Mc) (.ref k :: (st.take n).reverse)) [] σ (fun v σ' => σ'.length = σ.length + (mRm Mc).cells ∧ RJ M X (bc - (mRm Mc).cells) (bs - (mRm Mc).slots) nx lv (v.toList ++ st.drop (n + 1)) σ' Q)) : RJ M X bc bs pc lv st σ Q := by
  intro p l e s m args below meth c H locs cells slots Z b0 sz cA D ls h1 h2 h3 h4 h5 h6 h7 h8 hE
  have hkk := mOk_at h1 hq
  simp only [enOk, iLen, Bool.and_true, Bool.and_eq_true] at hkk
  obtain ⟨hd, hn9⟩ := hkk
  have hd := of_decide_eq_true hd
  have hn9 := of_decide_eq_true hn9
  subst hn9
  unfold cvOk at hc
  simp only [Bool.and_eq_true, decide_eq_true_eq] at hc
  obtain ⟨⟨⟨hc, w1⟩, w2⟩, w3⟩ := hc
  obtain ⟨w4, w5, w6, w7, w8⟩ := cOk_e hc
  obtain ⟨e1, e2⟩ := st_split hk
  have hk1 := σlt h4 hσ
  obtain ⟨q, hqc, hqn⟩ := Option.map_eq_some_iff.mp hci
  have hM := met_of (σ := σ) l b0 sz cA D (.ref k :: (st.take n).reverse) w8 hok hAs K
  have hrecv := va_recv h4.1.1 h4.2.1 hqc (xw_get hσ)
  rw [hqn, ← xa_k (b := b0) hk1] at hrecv
  refine rj_run (rest := st.drop (n + 1)) (va_runV (As := (st.take n).reverse.map (xv b0 sz)) (b := xa b0 sz k) (nL := mML M) (C := (mY Mc).cls) ⟨h2.1, h2.2.1, h2.2.2.2.1, h2.2.2.2.2.1, h2.2.2.2.2.2.1⟩ hM ⟨callB_of n h2.2.2.2.2.2.1 (xGood Mc w4) rfl rfl rfl (h2.w w5 rfl) (h2.w w1 rfl) w6 w7, h2.w w2 rfl, h2.w w3 rfl⟩ ⟨xP_blind, hrecv, fun U hU hW => ⟨rfl, xK_warm hW h4.1, by rw [hU]; exact h4.2.1, by rw [hU]; exact h4.2.2.2.1, h4.2.2.2.2.2⟩⟩ rfl (by rw [List.length_map]; exact e2) h5.1 ?_ ?_ hd ⟨by omega, by omega⟩) hbc hbs h1 h2 h3 h4 h5 h6 h7 h8 hE
  · show st.map (xv b0 sz) = _
    rw [← List.map_reverse]
    conv => lhs; rw [e1]
    rw [List.map_append]; rfl
  · rw [catSum_x]
    show 2 * 0 + _ ≤ 8
    omega
theorem st_split0 {st : List Value} {n : Nat} (h : n ≤ st.length) : st = (st.take n).reverse.reverse ++ st.drop n ∧ (st.take n).reverse.length = n := by
  refine ⟨?_, by simp; omega⟩
  rw [List.reverse_reverse, List.take_append_drop]
theorem rj_callS {i n : Nat} (Mc : MD) (hq : lk (mTab M) pc = some (.invokestatic i, nx, n, b, c, cl)) (hc : csOk M i n Mc = true) (hk : n ≤ st.length) (hrest : catSum (st.drop n) ≤ 8) (hok : mOk Mc = true) (hAs : (lvA (st.take n).reverse).length ≤ mML Mc) (hbc : (mRm Mc).cells ≤ bc) (hbs : (mRm Mc).slots ≤ bs)
    (K : RJ Mc none (mRm Mc).cells (mRm Mc).slots 0 (lvArgs (mML Mc) (st.take n).reverse) [] σ (fun v σ' => σ'.length = σ.length + (mRm Mc).cells ∧ RJ M X (bc - (mRm Mc).cells) (bs - (mRm Mc).slots) nx lv (v.toList ++ st.drop n) σ' Q)) : RJ M X bc bs pc lv st σ Q := by
  intro p l e s m args below meth c H locs cells slots Z b0 sz cA D ls h1 h2 h3 h4 h5 h6 h7 h8 hE
  have hkk := mOk_at h1 hq
  simp only [enOk, iLen, Bool.and_true, Bool.and_eq_true] at hkk
  obtain ⟨hd, hn9⟩ := hkk
  have hd := of_decide_eq_true hd
  have hn9 := of_decide_eq_true hn9
  subst hn9
  unfold csOk at hc
  simp only [Bool.and_eq_true, decide_eq_true_eq] at hc
  obtain ⟨⟨hc, w1⟩, w2⟩ := hc
  obtain ⟨w4, w5, w6, w7, w8⟩ := cOk_e hc
  obtain ⟨e1, e2⟩ := st_split0 hk
  have hM := met_of (σ := σ) l b0 sz cA D (st.take n).reverse w8 hok hAs K
  refine rj_run (rest := st.drop n) (va_runS (As := (st.take n).reverse.map (xv b0 sz)) (nL := mML M) ⟨h2.1, h2.2.1, h2.2.2.2.1, h2.2.2.2.2.1, h2.2.2.2.2.2.1⟩ hM ⟨callB_of n h2.2.2.2.2.2.1 (xGood Mc w4) rfl rfl rfl (h2.w w5 rfl) (h2.w w1 rfl) w6 w7, h2.w w2 rfl⟩ ⟨xP_blind, fun U hU hW => ⟨rfl, xK_warm hW h4.1, by rw [hU]; exact h4.2.1, by rw [hU]; exact h4.2.2.2.1, h4.2.2.2.2.2⟩⟩ rfl (by rw [List.length_map]; exact e2) h5.1 ?_ ?_ hd ⟨by omega, by omega⟩) hbc hbs h1 h2 h3 h4 h5 h6 h7 h8 hE
  · show st.map (xv b0 sz) = _
    rw [← List.map_reverse]
    conv => lhs; rw [e1]
    rw [List.map_append]
  · rw [catSum_x]
    show 2 * 0 + _ ≤ 8
    omega
theorem rj_callI {i n k : Nat} (Mc : MD) (hq : lk (mTab M) pc = some (.invokespecial i, nx, n, b, c, cl)) (hc : ciOk M i n Mc = true) (hk : ng st n = some (.ref k)) (hkk : k < 1000000) (hrest : catSum (st.drop (n + 1)) ≤ 8) (hok : mOk Mc = true) (hAs : (lvA (.ref k :: (st.take n).reverse)).length ≤ mML Mc) (hbc : (mRm Mc).cells ≤ bc) (hbs : (mRm Mc).slots ≤ bs)
    (K : RJ Mc none (mRm Mc).cells (mRm Mc).slots 0 (lvArgs (mML Mc) (.ref k :: (st.take n).reverse)) [] σ (fun v σ' => σ'.length = σ.length + (mRm Mc).cells ∧ RJ M X (bc - (mRm Mc).cells) (bs - (mRm Mc).slots) nx lv (v.toList ++ st.drop (n + 1)) σ' Q)) : RJ M X bc bs pc lv st σ Q := by
  intro p l e s m args below meth c H locs cells slots Z b0 sz cA D ls h1 h2 h3 h4 h5 h6 h7 h8 hE
  have hke := mOk_at h1 hq
  simp only [enOk, iLen, Bool.and_true, Bool.and_eq_true] at hke
  obtain ⟨hd, hn9⟩ := hke
  have hd := of_decide_eq_true hd
  have hn9 := of_decide_eq_true hn9
  subst hn9
  unfold ciOk at hc
  simp only [Bool.and_eq_true, decide_eq_true_eq] at hc
  obtain ⟨⟨⟨⟨hc, w1⟩, w2⟩, w3⟩, w9⟩ := hc
  obtain ⟨w4, w5, w6, w7, w8⟩ := cOk_e hc
  obtain ⟨e1, e2⟩ := st_split hk
  have hM := met_of (σ := σ) l b0 sz cA D (.ref k :: (st.take n).reverse) w8 hok hAs K
  refine rj_run (rest := st.drop (n + 1)) (va_runI (As := (st.take n).reverse.map (xv b0 sz)) (b := xa b0 sz k) (nL := mML M) ⟨h2.1, h2.2.1, h2.2.2.2.1, h2.2.2.2.2.1, h2.2.2.2.2.2.1⟩ hM ⟨callB_of n h2.2.2.2.2.2.1 (xGood Mc w4) (by rw [← w9]) rfl rfl (h2.w w5 rfl) (h2.w w1 rfl) w6 w7, w3, h2.w w2 rfl⟩ ⟨xP_blind, fun U hU hW => ⟨rfl, xK_warm hW h4.1, by rw [hU]; exact h4.2.1, by rw [hU]; exact h4.2.2.2.1, h4.2.2.2.2.2⟩⟩ rfl (by rw [List.length_map]; exact e2) h5.1 ?_ ?_ hd ⟨by omega, by omega⟩) hbc hbs h1 h2 h3 h4 h5 h6 h7 h8 hE
  · show st.map (xv b0 sz) = _
    rw [← List.map_reverse]
    conv => lhs; rw [e1]
    rw [List.map_append]; rfl
  · rw [catSum_x]
    show 2 * 0 + _ ≤ 8
    omega
theorem rj_callN {i n k : Nat} {host : String} (Mc : MD) (hq : lk (mTab M) pc = some (.invokespecial i, nx, n, b, c, cl)) (hc : cnOk M i n Mc host = true) (hk : ng st n = some (.ref k)) (hkk : k < 1000000) (hrest : catSum (st.drop (n + 1)) ≤ 8) (hok : mOk Mc = true) (hAs : (lvA (.ref k :: (st.take n).reverse)).length ≤ mML Mc) (hbc : (mRm Mc).cells ≤ bc) (hbs : (mRm Mc).slots ≤ bs)
    (K : RJ Mc none (mRm Mc).cells (mRm Mc).slots 0 (lvArgs (mML Mc) (.ref k :: (st.take n).reverse)) [] σ (fun v σ' => σ'.length = σ.length + (mRm Mc).cells ∧ RJ M X (bc - (mRm Mc).cells) (bs - (mRm Mc).slots) nx lv (v.toList ++ st.drop (n + 1)) σ' Q)) : RJ M X bc bs pc lv st σ Q := by
  intro p l e s m args below meth c H locs cells slots Z b0 sz cA D ls h1 h2 h3 h4 h5 h6 h7 h8 hE
  have hke := mOk_at h1 hq
  simp only [enOk, iLen, Bool.and_true, Bool.and_eq_true] at hke
  obtain ⟨hd, hn9⟩ := hke
  have hd := of_decide_eq_true hd
  have hn9 := of_decide_eq_true hn9
  subst hn9
  unfold cnOk at hc
  simp only [Bool.and_eq_true, decide_eq_true_eq] at hc
  obtain ⟨⟨⟨⟨hc, w1⟩, w2⟩, w3⟩, w9⟩ := hc
  obtain ⟨w4, w5, w6, w7, w8⟩ := cOk_e hc
  obtain ⟨e1, e2⟩ := st_split hk
  have hM := met_of (σ := σ) l b0 sz cA D (.ref k :: (st.take n).reverse) w8 hok hAs K
  refine rj_run (rest := st.drop (n + 1)) (va_runIN (As := (st.take n).reverse.map (xv b0 sz)) (b := xa b0 sz k) (nL := mML M) (host := host) ⟨h2.1, h2.2.1, h2.2.2.2.1, h2.2.2.2.2.1, h2.2.2.2.2.2.1⟩ hM ⟨va_cnB n h2.2.2.2.2.2.1 (xGood Mc w4) (by rw [← w9]) rfl rfl (h4.1.2 _ w1 rfl) (h2.w w5 rfl) w6 w7, w3, h2.w w2 rfl⟩ ⟨xP_blind, fun U hU hW => ⟨rfl, xK_warm hW h4.1, by rw [hU]; exact h4.2.1, by rw [hU]; exact h4.2.2.2.1, h4.2.2.2.2.2⟩⟩ rfl (by rw [List.length_map]; exact e2) h5.1 ?_ ?_ hd ⟨by omega, by omega⟩) hbc hbs h1 h2 h3 h4 h5 h6 h7 h8 hE
  · show st.map (xv b0 sz) = _
    rw [← List.map_reverse]
    conv => lhs; rw [e1]
    rw [List.map_append]; rfl
  · rw [catSum_x]
    show 2 * 0 + _ ≤ 8
    omega
end RjCall
end
section
/-! a typed store: the shape of all cells once both objects are made, by program; rows over it -/
abbrev Sh : Type := (Nat × Nat) ⊕ (Nat × List (Option Nat))
def shp : List Sh := [.inr (10, [some 1, some 5, some 10, some 15, some 20, none, some 21, some 22, some 30, some 34, some 38, some 45, some 49, none, none, none]), .inr (1, [some 2, some 3, some 4, none]), .inl (0, 30), .inl (0, 30), .inl (0, 30), .inr (7, [some 6, some 7, some 8, some 9, none]), .inl (0, 60), .inl (0, 60), .inl (0, 60), .inl (0, 60), .inr (7, [some 11, some 12, some 13, some 14, none]), .inl (0, 60), .inl (0, 60), .inl (0, 60), .inl (0, 60), .inr (7, [some 16, some 17, some 18, some 19, none]), .inl (0, 60), .inl (0, 60), .inl (0, 60), .inl (0, 60), .inl (0, 80), .inl (2, 4), .inr (4, [some 23, some 26, some 27, some 28, some 29, none, none, none, none]), .inr (2, [some 24, some 25, none, none, none]), .inl (0, 25), .inl (0, 8), .inl (0, 81), .inl (0, 81), .inl (0, 81), .inl (0, 81), .inr (3, [some 31, some 32, some 33]), .inl (0, 10), .inl (0, 10), .inl (0, 10), .inr (5, [some 35, some 36, some 37]), .inl (0, 2510), .inl (0, 10), .inl (0, 250), .inr (9, [some 39, some 42, some 43, some 44]), .inr (8, [some 40, some 41, none, none]), .inl (1, 400), .inl (0, 1024), .inl (0, 3200), .inl (0, 4000), .inl (0, 4000), .inr (0, [some 46]), .inr (8, [some 47, some 48, none, none]), .inl (1, 400), .inl (0, 1024), .inr (6, [some 50, none, none, none]), .inl (0, 10), .inr (2, [some 52, some 53, none, none, none]), .inl (0, 25), .inl (0, 8), .inr (2, [some 55, some 56, none, none, none]), .inl (0, 25), .inl (0, 8), .inr (2, [some 58, some 59, none, none, none]), .inl (0, 25), .inl (0, 8), .inr (2, [some 61, some 62, none, none, none]), .inl (0, 25), .inl (0, 8), .inr (11, [some 64, none, some 65, some 66, none, some 67, some 68, some 69, some 70, none, some 71, none, none, some 72, some 73, none, none, some 74, none, some 75, some 76, some 77, none, some 78, some 79, some 80, some 81, some 82, some 83, none, some 84, some 85, none]), .inl (0, 90), .inl (0, 3), .inl (0, 80), .inl (0, 4), .inl (0, 100), .inl (0, 32), .inl (0, 4), .inl (0, 10), .inl (0, 25), .inl (0, 8), .inl (0, 170), .inl (0, 90), .inl (0, 90), .inl (0, 90), .inl (0, 10), .inl (0, 10), .inl (0, 10), .inl (0, 2600), .inl (0, 401), .inl (0, 401), .inl (1, 4000), .inl (1, 4000)]
/-- int rows by cell and place, long rows, int fields, which row is 'ways', which 'waysThen' -/
abbrev Ty : Type := (Nat → Nat → Int32) × (Nat → Nat → Int64) × (Nat → Nat → Int32) × Nat × Nat
def gI (τ : Ty) : Nat → Nat → Int32 := τ.1
def gL (τ : Ty) : Nat → Nat → Int64 := τ.2.1
def gF (τ : Ty) : Nat → Nat → Int32 := τ.2.2.1
def gW (τ : Ty) : Nat × Nat := τ.2.2.2
def sA (τ : Ty) (k : Nat) (f : Nat → Int32) : Ty := (fun k' => if k' = k then f else τ.1 k', τ.2)
def sI (τ : Ty) (k j : Nat) (x : Int32) : Ty := sA τ k (upd (gI τ k) j x)
def sL (τ : Ty) (k j : Nat) (x : Int64) : Ty := (τ.1, fun k' => if k' = k then vp_updL (τ.2.1 k) j x else τ.2.1 k', τ.2.2)
def sF (τ : Ty) (k j : Nat) (x : Int32) : Ty := (τ.1, τ.2.1, fun k' => if k' = k then upd (τ.2.2.1 k) j x else τ.2.2.1 k', τ.2.2.2)
def sW (τ : Ty) (w : Nat × Nat) : Ty := (τ.1, τ.2.1, τ.2.2.1, w)
def swp (τ : Ty) (k r : Nat) : Nat := if k = 38 then (if r = 43 then τ.2.2.2.1 else if r = 44 then τ.2.2.2.2 else r) else r
def flds (τ : Ty) (k : Nat) : Nat → List (Option Nat) → List Value
  | _, [] => []
  | j, o :: t => (match o with
    | some r => .ref (swp τ k r)
    | none => .int (gF τ k j)) :: flds τ k (j + 1) t
theorem flds_get (τ : Ty) (k : Nat) (fs : List (Option Nat)) (j b : Nat) : (flds τ k j fs)[b]? = fs[b]?.map (fun o => match o with
    | some r => .ref (swp τ k r)
    | none => .int (gF τ k (j + b))) := by
  induction fs generalizing j b with
  | nil => simp [flds]
  | cons o t ih =>
    cases b with
    | zero => simp [flds]
    | succ b => simp only [flds, List.getElem?_cons_succ, ih, Nat.add_assoc, Nat.add_comm 1 b]
theorem flds_len (τ : Ty) (k : Nat) (fs : List (Option Nat)) (j : Nat) : (flds τ k j fs).length = fs.length := by
  induction fs generalizing j with
  | nil => rfl
  | cons o t ih => simp [flds, ih]
def exR : Nat → Option Nat := fun j => if j < 4 then some (51 + 3 * j) else none
def cellS (τ : Ty) (k : Nat) : Sh → va_E
  | .inl (0, n) => .inl (0, n, .inl (gI τ k))
  | .inl (1, n) => .inl (1, n, .inr (.inl (gL τ k)))
  | .inl (_, n) => .inl (2, n, .inr (.inr (.inr (.inr exR))))
  | .inr (ci, fs) => .inr (ci, flds τ k 0 fs)
def lay (τ : Ty) : List va_E := shp.mapIdx (fun k s => cellS τ k s)
theorem lay_len (τ : Ty) : (lay τ).length = 86 := by simp [lay, shp]
theorem lay_get {τ : Ty} {k : Nat} {s : Sh} (h : ng shp k = some s) : (lay τ)[k]? = some (cellS τ k s) := by
  rw [ng_eq] at h
  simp [lay, List.getElem?_mapIdx, h]
theorem flds_eq {τ τ' : Ty} {k : Nat} (hF : gF τ' k = gF τ k) (hW : k = 38 → gW τ' = gW τ) (fs : List (Option Nat)) (j : Nat) : flds τ' k j fs = flds τ k j fs := by
  induction fs generalizing j with
  | nil => rfl
  | cons o t ih =>
    simp only [flds, ih, hF]
    cases o with
    | none => rfl
    | some r =>
      have : swp τ' k r = swp τ k r := by
        unfold swp
        by_cases hk : k = 38
        · have e : τ'.2.2.2 = τ.2.2.2 := hW hk
          rw [if_pos hk, if_pos hk, e]
        · rw [if_neg hk, if_neg hk]
      simp only [this]
theorem cellS_eq {τ τ' : Ty} {k : Nat} (hI : gI τ' k = gI τ k) (hL : gL τ' k = gL τ k) (hF : gF τ' k = gF τ k) (hW : k = 38 → gW τ' = gW τ) (s : Sh) : cellS τ' k s = cellS τ k s := by
  unfold cellS
  split <;> simp only [hI, hL, flds_eq hF hW]
theorem lay_set {τ τ' : Ty} {k : Nat} {s : Sh} {e : va_E} (hk : ng shp k = some s) (he : cellS τ' k s = e) (ho : ∀ k', k' ≠ k → gI τ' k' = gI τ k' ∧ gL τ' k' = gL τ k' ∧ gF τ' k' = gF τ k' ∧ (k' = 38 → gW τ' = gW τ)) : (lay τ).set k e = lay τ' := by
  apply List.ext_getElem?
  intro i
  rw [ng_eq] at hk
  have hlt := (List.getElem?_eq_some_iff.mp hk).1
  rw [List.getElem?_set]
  by_cases hik : k = i
  · subst hik
    rw [if_pos rfl, if_pos (by rw [lay_len]; exact hlt)]
    simp [lay, List.getElem?_mapIdx, hk, he]
  · rw [if_neg hik]
    obtain ⟨a1, a2, a3, a4⟩ := ho i (fun h => hik h.symm)
    simp only [lay, List.getElem?_mapIdx]
    cases shp[i]? with
    | none => rfl
    | some s' => exact congrArg some (cellS_eq a1 a2 a3 a4 s').symm
/-- what field b of the cell k is, an object of class a: an int (some none), a cell (some (some r)) -/
def fK (k a b : Nat) : Option (Option Nat) := match ng shp k with
  | some (.inr (ci, fs)) => match Nat.decEq ci a with
    | isTrue _ => ng fs b
    | isFalse _ => none
  | _ => none
def aI (k : Nat) : Option Nat := match ng shp k with
  | some (.inl (0, n)) => some n
  | _ => none
def aL (k : Nat) : Option Nat := match ng shp k with
  | some (.inl (1, n)) => some n
  | _ => none
theorem fK_e {k a b : Nat} {o : Option Nat} (h : fK k a b = some o) : ∃ fs, ng shp k = some (.inr (a, fs)) ∧ fs[b]? = some o := by
  unfold fK at h
  split at h
  · rename_i ci fs hs
    split at h
    · rename_i h0 _; subst h0; rw [ng_eq] at h; exact ⟨fs, hs, h⟩
    · cases h
  · cases h
theorem aI_e {k n : Nat} (h : aI k = some n) : ng shp k = some (.inl (0, n)) := by
  unfold aI at h
  split at h
  · rename_i hs; cases h; exact hs
  · cases h
theorem aL_e {k n : Nat} (h : aL k = some n) : ng shp k = some (.inl (1, n)) := by
  unfold aL at h
  split at h
  · rename_i hs; cases h; exact hs
  · cases h
def fV (τ : Ty) (k b : Nat) (o : Option Nat) : Value := match o with
  | some r => .ref (swp τ k r)
  | none => .int (gF τ k b)
theorem lay_f {τ : Ty} {k a b : Nat} {o : Option Nat} (h : fK k a b = some o) : ∃ fs, (lay τ)[k]? = some (.inr (a, fs)) ∧ fs[b]? = some (fV τ k b o) := by
  obtain ⟨fs, h1, h2⟩ := fK_e h
  refine ⟨flds τ k 0 fs, lay_get h1, ?_⟩
  rw [flds_get, h2, Option.map_some, Nat.zero_add]
  rfl
/-- behind a call that makes nothing -/
theorem lay_back {τ : Ty} {n bc bs : Nat} {M : MD} {X : Option (Nat × (Nat → Int32))} {pc : Nat} {lv : List (Option Value)} {st : List Value} {σ' : List va_E} {Q : Option Value → List va_E → Prop} (h0 : n = 0) (h : ∃ τ', σ' = lay τ' ∧ ∀ bc bs, RJ M X bc bs pc lv st (lay τ') Q) : σ'.length = (lay τ).length + n ∧ RJ M X bc bs pc lv st σ' Q := by
  obtain ⟨τ', h1, h2⟩ := h
  have e1 : σ'.length = 86 := by rw [h1]; exact lay_len τ'
  have e2 : (lay τ).length = 86 := lay_len τ
  refine ⟨by omega, ?_⟩
  rw [h1]
  exact h2 bc bs
theorem lay_i {τ : Ty} {k n : Nat} (h : aI k = some n) : (lay τ)[k]? = some (.inl (0, n, .inl (gI τ k))) := lay_get (aI_e h)
theorem lay_l {τ : Ty} {k n : Nat} (h : aL k = some n) : (lay τ)[k]? = some (.inl (1, n, .inr (.inl (gL τ k)))) := lay_get (aL_e h)
theorem lay_sA {τ : Ty} {k n : Nat} (h : aI k = some n) (f : Nat → Int32) : (lay τ).set k (.inl (0, n, .inl f)) = lay (sA τ k f) := by
  refine lay_set (aI_e h) ?_ (fun k' hk' => ⟨?_, rfl, rfl, fun _ => rfl⟩)
  · show Sum.inl (0, n, Sum.inl (gI (sA τ k f) k)) = _
    simp [gI, sA]
  · simp [gI, sA, hk']
theorem lay_sL {τ : Ty} {k n : Nat} (h : aL k = some n) (j : Nat) (x : Int64) : (lay τ).set k (.inl (1, n, .inr (.inl (vp_updL (gL τ k) j x)))) = lay (sL τ k j x) := by
  refine lay_set (aL_e h) ?_ (fun k' hk' => ⟨rfl, ?_, rfl, fun _ => rfl⟩)
  · show Sum.inl (1, n, Sum.inr (Sum.inl (gL (sL τ k j x) k))) = _
    simp [gL, sL]
  · simp [gL, sL, hk']
theorem lay_sF {τ : Ty} {k a b : Nat} (h : fK k a b = some none) (x : Int32) : ∃ fs, (lay τ)[k]? = some (.inr (a, fs)) ∧ b < fs.length ∧ (lay τ).set k (.inr (a, fs.set b (.int x))) = lay (sF τ k b x) := by
  obtain ⟨fs, h1, h2⟩ := fK_e h
  have hb : b < fs.length := (List.getElem?_eq_some_iff.mp h2).1
  refine ⟨flds τ k 0 fs, lay_get h1, by rw [flds_len]; exact hb, lay_set h1 ?_ (fun k' hk' => ⟨rfl, rfl, ?_, fun _ => rfl⟩)⟩
  · show Sum.inr (a, flds (sF τ k b x) k 0 fs) = _
    congr 2
    apply List.ext_getElem?
    intro i
    rw [List.getElem?_set, flds_get, flds_get, flds_len]
    by_cases hi : b = i
    · subst hi
      rw [if_pos rfl, if_pos hb, h2]
      simp [gF, sF, upd]
    · rw [if_neg hi]
      cases fs[i]? with
      | none => rfl
      | some o => cases o with
        | some r => rfl
        | none =>
          have : ¬ i = b := fun e => hi e.symm
          simp [gF, sF, upd, this]
  · simp [gF, sF, hk']
/-- the judgement over the typed store: nothing is made any more -/
def RT (M : MD) (X : Option (Nat × (Nat → Int32))) (pc : Nat) (lv : List (Option Value)) (st : List Value) (τ : Ty) (Q : Option Value → Ty → Prop) : Prop :=
  ∀ bc bs, RJ M X bc bs pc lv st (lay τ) (fun v σ' => ∃ τ', σ' = lay τ' ∧ Q v τ')
def pI (a b : Nat) : Bool := match ng tyTab a with
  | some l => match ng l b with
    | some (false, .int) => true
    | _ => false
  | none => false
theorem pI_e {a b : Nat} (h : pI a b = true) : (tyTab[a]?.bind (·[b]?)) = some (false, .int) := by
  unfold pI at h
  split at h
  · rename_i l hl
    split at h
    · rename_i hh
      rw [ng_eq] at hl hh
      rw [hl]
      exact hh
    · cases h
  · cases h
section RtRows
variable {M : MD} {X : Option (Nat × (Nat → Int32))} {pc nx a b : Nat} {c : Int32} {cl : Int64} {lv lv' : List (Option Value)} {st st' : List Value} {τ τ' : Ty} {Q : Option Value → Ty → Prop}
theorem rt_pure {E : Instr} (hq : lk (mTab M) pc = some (E, nx, a, b, c, cl)) (hs : stp E a c cl lv st = some (lv', st')) (k : RT M X nx lv' st' τ Q) : RT M X pc lv st τ Q := fun bc bs => rj_step hq hs (k bc bs)
theorem rt_getI {i k : Nat} (hq : lk (mTab M) pc = some (.getfield i, nx, a, b, c, cl)) (hf : fK k a b = some none) (K : RT M X nx lv (.int (gF τ k b) :: st) τ Q) : RT M X pc lv (.ref k :: st) τ Q := fun bc bs => by
  obtain ⟨fs, h1, h2⟩ := lay_f (τ := τ) hf
  exact rj_get hq h1 h2 (K bc bs)
theorem rt_getR {i k r : Nat} (hq : lk (mTab M) pc = some (.getfield i, nx, a, b, c, cl)) (hf : fK k a b = some (some r)) (K : RT M X nx lv (.ref (swp τ k r) :: st) τ Q) : RT M X pc lv (.ref k :: st) τ Q := fun bc bs => by
  obtain ⟨fs, h1, h2⟩ := lay_f (τ := τ) hf
  exact rj_get hq h1 h2 (K bc bs)
theorem rt_putI {i k : Nat} {x : Int32} (hq : lk (mTab M) pc = some (.putfield i, nx, a, b, c, cl)) (hf : fK k a b = some none) (hp : pI a b = true) (K : RT M X nx lv st (sF τ k b x) Q) : RT M X pc lv (.int x :: .ref k :: st) τ Q := fun bc bs => by
  obtain ⟨fs, h1, h2, h3⟩ := lay_sF (τ := τ) hf x
  refine rj_put0 hq h1 h2 (pI_e hp) (fun _ _ => rfl) (fun _ _ => rfl) ?_
  rw [h3]
  exact K bc bs
theorem rt_putZ {i k : Nat} {x : Int32} (hq : lk (mTab M) pc = some (.putfield i, nx, a, b, c, cl)) (hf : fK k a b = some none) (hp : (tyTab[a]?.bind (·[b]?)) = some (false, .boolean)) (hx : x = 0 ∨ x = 1) (K : RT M X nx lv st (sF τ k b x) Q) : RT M X pc lv (.int x :: .ref k :: st) τ Q := fun bc bs => by
  obtain ⟨fs, h1, h2, h3⟩ := lay_sF (τ := τ) hf x
  refine rj_put0 hq h1 h2 hp (fun _ _ => by rcases hx with rfl | rfl <;> rfl) (fun _ _ => by rcases hx with rfl | rfl <;> rfl) ?_
  rw [h3]
  exact K bc bs
theorem rt_iald {k n : Nat} {i : Int32} (hq : lk (mTab M) pc = some (.iaload, nx, a, b, c, cl)) (hf : aI k = some n) (hin : vp_in i n) (K : RT M X nx lv (.int (gI τ k i.toNatClampNeg) :: st) τ Q) : RT M X pc lv (.int i :: .ref k :: st) τ Q := fun bc bs => rj_iald hq (lay_i hf) hin (K bc bs)
theorem rt_lald {k n : Nat} {i : Int32} (hq : lk (mTab M) pc = some (.laload, nx, a, b, c, cl)) (hf : aL k = some n) (hin : vp_in i n) (K : RT M X nx lv (.long (gL τ k i.toNatClampNeg) :: st) τ Q) : RT M X pc lv (.int i :: .ref k :: st) τ Q := fun bc bs => rj_lald hq (lay_l hf) hin (K bc bs)
theorem rt_iast {k n : Nat} {i x : Int32} (hq : lk (mTab M) pc = some (.iastore, nx, a, b, c, cl)) (hf : aI k = some n) (hin : vp_in i n) (K : RT M X nx lv st (sI τ k i.toNatClampNeg x) Q) : RT M X pc lv (.int x :: .int i :: .ref k :: st) τ Q := fun bc bs => by
  refine rj_iast hq (lay_i hf) hin ?_
  rw [lay_sA hf]
  exact K bc bs
theorem rt_last {k n : Nat} {i : Int32} {x : Int64} (hq : lk (mTab M) pc = some (.lastore, nx, a, b, c, cl)) (hf : aL k = some n) (hin : vp_in i n) (K : RT M X nx lv st (sL τ k i.toNatClampNeg x) Q) : RT M X pc lv (.long x :: .int i :: .ref k :: st) τ Q := fun bc bs => by
  refine rj_last hq (lay_l hf) hin ?_
  rw [lay_sL hf]
  exact K bc bs
theorem rt_aald {j : Nat} (hq : lk (mTab M) pc = some (.aaload, nx, a, b, c, cl)) (hj : j < 4) (K : RT M X nx lv (.ref (51 + 3 * j) :: st) τ Q) : RT M X pc lv (.int (nI j) :: .ref 21 :: st) τ Q := fun bc bs => by
  refine rj_aald (f := exR) hq (lay_get (s := .inl (2, 4)) rfl) (vp_in_nI hj (by decide)) ?_ (K bc bs)
  rw [nI_clamp (by omega)]
  simp [exR, hj]
theorem rt_alen {k n : Nat} (hq : lk (mTab M) pc = some (.arraylength, nx, a, b, c, cl)) (hf : aI k = some n) (K : RT M X nx lv (.int (nI n) :: st) τ Q) : RT M X pc lv (.ref k :: st) τ Q := fun bc bs => rj_alen hq (lay_i hf) (by decide) (K bc bs)
theorem rt_alenL {k n : Nat} (hq : lk (mTab M) pc = some (.arraylength, nx, a, b, c, cl)) (hf : aL k = some n) (K : RT M X nx lv (.int (nI n) :: st) τ Q) : RT M X pc lv (.ref k :: st) τ Q := fun bc bs => rj_alen hq (lay_l hf) (by decide) (K bc bs)
theorem rt_copy {i k0 k1 n0 n1 : Nat} {sp dp n : Int32} (hq : lk (mTab M) pc = some (.invokestatic i, nx, a, b, c, cl)) (hw : Jvm.Cond.methodLink (mY M).cls i arraycopyName ∈ lw_tbl) (h0 : aI k0 = some n0) (h1 : aI k1 = some n1)
    (g1 : ¬ sp < 0) (g2 : ¬ dp < 0) (g3 : ¬ n < 0) (g4 : sp.toNatClampNeg + n.toNatClampNeg ≤ n0) (g5 : dp.toNatClampNeg + n.toNatClampNeg ≤ n1) (hf : 1 ≤ (mRm M).frames) (hl : catSum st + (nativeFrameWords "java/lang/System" "arraycopy" 5 + 11) ≤ (mRm M).locals)
    (K : RT M X nx lv st (sA τ k1 (va_cpy (gI τ k0) (gI τ k1) sp.toNatClampNeg dp.toNatClampNeg n.toNatClampNeg)) Q) : RT M X pc lv (.int n :: .int dp :: .ref k1 :: .int sp :: .ref k0 :: st) τ Q := fun bc bs => by
  refine rj_copy hq hw (lay_i h0) (lay_i h1) g1 g2 g3 g4 g5 hf hl ?_
  rw [lay_sA h1]
  exact K bc bs
theorem rt_idiv {x y : Int32} (hq : lk (mTab M) pc = some (.idiv, nx, a, b, c, cl)) (hne : ¬ y = 0) (K : RT M X nx lv (.int (x / y) :: st) τ Q) : RT M X pc lv (.int y :: .int x :: st) τ Q := fun bc bs => rs_idiv hq hne (K bc bs)
theorem rt_irem {x y : Int32} (hq : lk (mTab M) pc = some (.irem, nx, a, b, c, cl)) (hne : ¬ y = 0) (K : RT M X nx lv (.int (x - x / y * y) :: st) τ Q) : RT M X pc lv (.int y :: .int x :: st) τ Q := fun bc bs => rs_irem hq hne (K bc bs)
theorem rt_ldiv {x y : Int64} (hq : lk (mTab M) pc = some (.ldiv, nx, a, b, c, cl)) (hne : ¬ y = 0) (K : RT M X nx lv (.long (x / y) :: st) τ Q) : RT M X pc lv (.long y :: .long x :: st) τ Q := fun bc bs => rs_ldiv hq hne (K bc bs)
theorem rt_lrem {x y : Int64} (hq : lk (mTab M) pc = some (.lrem, nx, a, b, c, cl)) (hne : ¬ y = 0) (K : RT M X nx lv (.long (x - x / y * y) :: st) τ Q) : RT M X pc lv (.long y :: .long x :: st) τ Q := fun bc bs => rs_lrem hq hne (K bc bs)
theorem rt_if_eq {x : Int32} {n : Int} (hq : lk (mTab M) pc = some (.ifCond .eq n, nx, a, b, c, cl)) (kt : x = 0 → RT M X a lv st τ Q) (kf : ¬ x = 0 → RT M X nx lv st τ Q) : RT M X pc lv (.int x :: st) τ Q := fun bc bs => rj_if_eq hq (fun h => kt h bc bs) (fun h => kf h bc bs)
theorem rt_if_ne {x : Int32} {n : Int} (hq : lk (mTab M) pc = some (.ifCond .ne n, nx, a, b, c, cl)) (kt : ¬ x = 0 → RT M X a lv st τ Q) (kf : x = 0 → RT M X nx lv st τ Q) : RT M X pc lv (.int x :: st) τ Q := fun bc bs => rj_if_ne hq (fun h => kt h bc bs) (fun h => kf h bc bs)
theorem rt_if_lt {x : Int32} {n : Int} (hq : lk (mTab M) pc = some (.ifCond .lt n, nx, a, b, c, cl)) (kt : x < 0 → RT M X a lv st τ Q) (kf : ¬ x < 0 → RT M X nx lv st τ Q) : RT M X pc lv (.int x :: st) τ Q := fun bc bs => rj_if_lt hq (fun h => kt h bc bs) (fun h => kf h bc bs)
theorem rt_if_ge {x : Int32} {n : Int} (hq : lk (mTab M) pc = some (.ifCond .ge n, nx, a, b, c, cl)) (kt : 0 ≤ x → RT M X a lv st τ Q) (kf : ¬ 0 ≤ x → RT M X nx lv st τ Q) : RT M X pc lv (.int x :: st) τ Q := fun bc bs => rj_if_ge hq (fun h => kt h bc bs) (fun h => kf h bc bs)
theorem rt_if_gt {x : Int32} {n : Int} (hq : lk (mTab M) pc = some (.ifCond .gt n, nx, a, b, c, cl)) (kt : 0 < x → RT M X a lv st τ Q) (kf : ¬ 0 < x → RT M X nx lv st τ Q) : RT M X pc lv (.int x :: st) τ Q := fun bc bs => rj_if_gt hq (fun h => kt h bc bs) (fun h => kf h bc bs)
theorem rt_if_le {x : Int32} {n : Int} (hq : lk (mTab M) pc = some (.ifCond .le n, nx, a, b, c, cl)) (kt : x ≤ 0 → RT M X a lv st τ Q) (kf : ¬ x ≤ 0 → RT M X nx lv st τ Q) : RT M X pc lv (.int x :: st) τ Q := fun bc bs => rj_if_le hq (fun h => kt h bc bs) (fun h => kf h bc bs)
theorem rt_ic_eq {x y : Int32} {n : Int} (hq : lk (mTab M) pc = some (.if_icmp .eq n, nx, a, b, c, cl)) (kt : x = y → RT M X a lv st τ Q) (kf : ¬ x = y → RT M X nx lv st τ Q) : RT M X pc lv (.int y :: .int x :: st) τ Q := fun bc bs => rj_ic_eq hq (fun h => kt h bc bs) (fun h => kf h bc bs)
theorem rt_ic_ne {x y : Int32} {n : Int} (hq : lk (mTab M) pc = some (.if_icmp .ne n, nx, a, b, c, cl)) (kt : ¬ x = y → RT M X a lv st τ Q) (kf : x = y → RT M X nx lv st τ Q) : RT M X pc lv (.int y :: .int x :: st) τ Q := fun bc bs => rj_ic_ne hq (fun h => kt h bc bs) (fun h => kf h bc bs)
theorem rt_ic_lt {x y : Int32} {n : Int} (hq : lk (mTab M) pc = some (.if_icmp .lt n, nx, a, b, c, cl)) (kt : x < y → RT M X a lv st τ Q) (kf : ¬ x < y → RT M X nx lv st τ Q) : RT M X pc lv (.int y :: .int x :: st) τ Q := fun bc bs => rj_ic_lt hq (fun h => kt h bc bs) (fun h => kf h bc bs)
theorem rt_ic_ge {x y : Int32} {n : Int} (hq : lk (mTab M) pc = some (.if_icmp .ge n, nx, a, b, c, cl)) (kt : y ≤ x → RT M X a lv st τ Q) (kf : ¬ y ≤ x → RT M X nx lv st τ Q) : RT M X pc lv (.int y :: .int x :: st) τ Q := fun bc bs => rj_ic_ge hq (fun h => kt h bc bs) (fun h => kf h bc bs)
theorem rt_ic_gt {x y : Int32} {n : Int} (hq : lk (mTab M) pc = some (.if_icmp .gt n, nx, a, b, c, cl)) (kt : y < x → RT M X a lv st τ Q) (kf : ¬ y < x → RT M X nx lv st τ Q) : RT M X pc lv (.int y :: .int x :: st) τ Q := fun bc bs => rj_ic_gt hq (fun h => kt h bc bs) (fun h => kf h bc bs)
theorem rt_ic_le {x y : Int32} {n : Int} (hq : lk (mTab M) pc = some (.if_icmp .le n, nx, a, b, c, cl)) (kt : x ≤ y → RT M X a lv st τ Q) (kf : ¬ x ≤ y → RT M X nx lv st τ Q) : RT M X pc lv (.int y :: .int x :: st) τ Q := fun bc bs => rj_ic_le hq (fun h => kt h bc bs) (fun h => kf h bc bs)
theorem rt_iret {x : Int32} (hq : lk (mTab M) pc = some (.ireturn, nx, a, b, c, cl)) (hr : mRet M = some .int) (h : Q (some (.int x)) τ) : RT M X pc lv [.int x] τ Q := fun bc bs => rj_iret hq hr ⟨τ, rfl, h⟩
theorem rt_zret {x : Int32} (hq : lk (mTab M) pc = some (.ireturn, nx, a, b, c, cl)) (hr : mRet M = some .boolean) (hn : x = 0 ∨ x = 1) (h : Q (some (.int x)) τ) : RT M X pc lv [.int x] τ Q := fun bc bs => rj_zret hq hr hn ⟨τ, rfl, h⟩
theorem rt_lret {x : Int64} (hq : lk (mTab M) pc = some (.lreturn, nx, a, b, c, cl)) (hr : mRet M = some .long) (h : Q (some (.long x)) τ) : RT M X pc lv [.long x] τ Q := fun bc bs => rj_lret hq hr ⟨τ, rfl, h⟩
theorem rt_vret (hq : lk (mTab M) pc = some (.return_, nx, a, b, c, cl)) (hr : mRet M = none) (h : Q none τ) : RT M X pc lv [] τ Q := fun bc bs => rj_vret hq hr ⟨τ, rfl, h⟩
theorem rt_tsIn {d lo hi : Int} {os : Array Int} {x : Int32} {off : Int} {tgt : Nat} (hq : lk (mTab M) pc = some (.tableswitch d lo hi os, nx, a, b, c, cl)) (h1 : ¬ x.toInt < lo) (h2 : ¬ hi < x.toInt) (ho : os[(x.toInt - lo).toNat]? = some off) (ht : (pc : Int) + off = (tgt : Int)) (K : RT M X tgt lv st τ Q) : RT M X pc lv (.int x :: st) τ Q := fun bc bs => rj_tsIn hq h1 h2 ho ht (K bc bs)
theorem rt_tsOut {d lo hi : Int} {os : Array Int} {x : Int32} {tgt : Nat} (hq : lk (mTab M) pc = some (.tableswitch d lo hi os, nx, a, b, c, cl)) (h : x.toInt < lo ∨ hi < x.toInt) (ht : (pc : Int) + d = (tgt : Int)) (K : RT M X tgt lv st τ Q) : RT M X pc lv (.int x :: st) τ Q := fun bc bs => rj_tsOut hq h ht (K bc bs)
theorem rt_ls {d : Int} {ps : Array (Int × Int)} {x : Int32} {off : Int} {tgt : Nat} (hq : lk (mTab M) pc = some (.lookupswitch d ps, nx, a, b, c, cl)) (ho : Op.lookupswitch.offset ps.toList d x.toInt = off) (ht : (pc : Int) + off = (tgt : Int)) (K : RT M X tgt lv st τ Q) : RT M X pc lv (.int x :: st) τ Q := fun bc bs => rj_ls hq ho ht (K bc bs)
theorem RT.mono {Q' : Option Value → Ty → Prop} (hQ : ∀ v τ', Q v τ' → Q' v τ') (h : RT M X pc lv st τ Q) : RT M X pc lv st τ Q' := fun bc bs => (h bc bs).mono (fun _ _ ⟨τ', h1, h2⟩ => ⟨τ', h1, hQ _ _ h2⟩)
theorem rt_callV {i n k ci : Nat} (Mc : MD) (hq : lk (mTab M) pc = some (.invokevirtual i, nx, n, b, c, cl)) (hc : cvOk M i n Mc = true) (hk : ng st n = some (.ref k)) (hf : fK k ci 0 ≠ none) (hci : (vwCl[ci]?.map (·.1)) = some (mY Mc).cls) (hrest : catSum (st.drop (n + 1)) ≤ 8) (hok : mOk Mc = true) (hAs : (lvA (.ref k :: (st.take n).reverse)).length ≤ mML Mc) (h0 : (mRm Mc).cells = 0 ∧ (mRm Mc).slots = 0)
    (K : RT Mc none 0 (lvArgs (mML Mc) (.ref k :: (st.take n).reverse)) [] τ (fun v τ' => RT M X nx lv (v.toList ++ st.drop (n + 1)) τ' Q)) : RT M X pc lv st τ Q := fun bc bs => by
  cases ho : fK k ci 0 with
  | none => exact absurd ho hf
  | some o =>
    obtain ⟨fs, h1, -⟩ := lay_f (τ := τ) ho
    refine rj_callV Mc hq hc hk h1 hci hrest hok hAs (by rw [h0.1]; exact Nat.zero_le _) (by rw [h0.2]; exact Nat.zero_le _) ((K _ _).mono (fun v σ' h => lay_back h0.1 h))
theorem rt_callS {i n : Nat} (Mc : MD) (hq : lk (mTab M) pc = some (.invokestatic i, nx, n, b, c, cl)) (hc : csOk M i n Mc = true) (hk : n ≤ st.length) (hrest : catSum (st.drop n) ≤ 8) (hok : mOk Mc = true) (hAs : (lvA (st.take n).reverse).length ≤ mML Mc) (h0 : (mRm Mc).cells = 0 ∧ (mRm Mc).slots = 0)
    (K : RT Mc none 0 (lvArgs (mML Mc) (st.take n).reverse) [] τ (fun v τ' => RT M X nx lv (v.toList ++ st.drop n) τ' Q)) : RT M X pc lv st τ Q := fun bc bs => by
  refine rj_callS Mc hq hc hk hrest hok hAs (by rw [h0.1]; exact Nat.zero_le _) (by rw [h0.2]; exact Nat.zero_le _) ((K _ _).mono (fun v σ' h => lay_back h0.1 h))
end RtRows
end
section
/-! by program: the tables hold -/
theorem okX0_init : mOk mX0_init = true := by decide +kernel
theorem okX0_statesOf : mOk mX0_statesOf = true := by decide +kernel
theorem okX0_shortestBeyond : mOk mX0_shortestBeyond = true := by decide +kernel
theorem okX0_pairOf : mOk mX0_pairOf = true := by decide +kernel
theorem okX0_tellsApart : mOk mX0_tellsApart = true := by decide +kernel
theorem okX0_widens : mOk mX0_widens = true := by decide +kernel
theorem okX1_init : mOk mX1_init = true := by decide +kernel
theorem okX1_isEdge : mOk mX1_isEdge = true := by decide +kernel
theorem okX1_has : mOk mX1_has = true := by decide +kernel
theorem okX1_put : mOk mX1_put = true := by decide +kernel
theorem okX1_remove : mOk mX1_remove = true := by decide +kernel
theorem okX1_spell : mOk mX1_spell = true := by decide +kernel
theorem okX2_init : mOk mX2_init = true := by decide +kernel
theorem okX2_wipe : mOk mX2_wipe = true := by decide +kernel
theorem okX2_become : mOk mX2_become = true := by decide +kernel
theorem okX2_newPlace : mOk mX2_newPlace = true := by decide +kernel
theorem okX2_link : mOk mX2_link = true := by decide +kernel
theorem okX2_finishes : mOk mX2_finishes = true := by decide +kernel
theorem okX2_behind : mOk mX2_behind = true := by decide +kernel
theorem okX2_aheadOf : mOk mX2_aheadOf = true := by decide +kernel
theorem okX2_after : mOk mX2_after = true := by decide +kernel
theorem okX3_init : mOk mX3_init = true := by decide +kernel
theorem okX3_endsFrom : mOk mX3_endsFrom = true := by decide +kernel
theorem okX3_spreads : mOk mX3_spreads = true := by decide +kernel
theorem okX4_init : mOk mX4_init = true := by decide +kernel
theorem okX4_faultOf : mOk mX4_faultOf = true := by decide +kernel
theorem okX4_takes : mOk mX4_takes = true := by decide +kernel
theorem okX4_signsOf : mOk mX4_signsOf = true := by decide +kernel
theorem okX4_takesPlace : mOk mX4_takesPlace = true := by decide +kernel
theorem okX4_opens : mOk mX4_opens = true := by decide +kernel
theorem okX4_closes : mOk mX4_closes = true := by decide +kernel
theorem okX4_turns : mOk mX4_turns = true := by decide +kernel
theorem okX4_repeats : mOk mX4_repeats = true := by decide +kernel
theorem okX4_beginChoice : mOk mX4_beginChoice = true := by decide +kernel
theorem okX4_beginRow : mOk mX4_beginRow = true := by decide +kernel
theorem okX4_openPart : mOk mX4_openPart = true := by decide +kernel
theorem okX4_closePart : mOk mX4_closePart = true := by decide +kernel
theorem okX4_closeRow : mOk mX4_closeRow = true := by decide +kernel
theorem okX5_init : mOk mX5_init = true := by decide +kernel
theorem okX5_lengthOf : mOk mX5_lengthOf = true := by decide +kernel
theorem okX5_widens : mOk mX5_widens = true := by decide +kernel
theorem okX5_trace : mOk mX5_trace = true := by decide +kernel
end
section
/-! by program: the tables hold -/
theorem okX5_firstStep : mOk mX5_firstStep = true := by decide +kernel
theorem okX6_init : mOk mX6_init = true := by decide +kernel
theorem okX6_size : mOk mX6_size = true := by decide +kernel
theorem okX7_init : mOk mX7_init = true := by decide +kernel
theorem okX7_put : mOk mX7_put = true := by decide +kernel
theorem okX8_init : mOk mX8_init = true := by decide +kernel
theorem okX8_reset : mOk mX8_reset = true := by decide +kernel
theorem okX8_numberOf : mOk mX8_numberOf = true := by decide +kernel
theorem okX9_init : mOk mX9_init = true := by decide +kernel
theorem okX9_routesOf : mOk mX9_routesOf = true := by decide +kernel
theorem okX9_total : mOk mX9_total = true := by decide +kernel
theorem okX9_advances : mOk mX9_advances = true := by decide +kernel
theorem okX9_advancesFrom : mOk mX9_advancesFrom = true := by decide +kernel
theorem okX9_stateBehind : mOk mX9_stateBehind = true := by decide +kernel
theorem okX9_stateOf : mOk mX9_stateOf = true := by decide +kernel
theorem okX10_init : mOk mX10_init = true := by decide +kernel
theorem okX10_edge : mOk mX10_edge = true := by decide +kernel
theorem okX10_drop : mOk mX10_drop = true := by decide +kernel
theorem okX10_anew : mOk mX10_anew = true := by decide +kernel
theorem okX10_of : mOk mX10_of = true := by decide +kernel
theorem okX10_degree : mOk mX10_degree = true := by decide +kernel
theorem okX10_type : mOk mX10_type = true := by decide +kernel
theorem okX10_clear : mOk mX10_clear = true := by decide +kernel
theorem okX10_reads : mOk mX10_reads = true := by decide +kernel
theorem okX10_about : mOk mX10_about = true := by decide +kernel
theorem okX10_accepts : mOk mX10_accepts = true := by decide +kernel
theorem okX10_words : mOk mX10_words = true := by decide +kernel
theorem okX10_beyond : mOk mX10_beyond = true := by decide +kernel
theorem okX10_answers : mOk mX10_answers = true := by decide +kernel
theorem okX10_ends : mOk mX10_ends = true := by decide +kernel
theorem okX10_pairs : mOk mX10_pairs = true := by decide +kernel
theorem okX10_far : mOk mX10_far = true := by decide +kernel
theorem okX10_count : mOk mX10_count = true := by decide +kernel
theorem okX10_route : mOk mX10_route = true := by decide +kernel
end
section
/-! by program: the tables hold -/
theorem okX10_bridge : mOk mX10_bridge = true := by decide +kernel
theorem okX10_stand : mOk mX10_stand = true := by decide +kernel
theorem okX10_standing : mOk mX10_standing = true := by decide +kernel
theorem okX10_kept : mOk mX10_kept = true := by decide +kernel
theorem okX10_draw : mOk mX10_draw = true := by decide +kernel
theorem okX10_told : mOk mX10_told = true := by decide +kernel
theorem okX10_digest : mOk mX10_digest = true := by decide +kernel
theorem okX10_isVertex : mOk mX10_isVertex = true := by decide +kernel
theorem okX10_isExpression : mOk mX10_isExpression = true := by decide +kernel
theorem okX10_isWord : mOk mX10_isWord = true := by decide +kernel
theorem okX10_refusalOf : mOk mX10_refusalOf = true := by decide +kernel
theorem okX10_refuse : mOk mX10_refuse = true := by decide +kernel
theorem okX10_orRefused : mOk mX10_orRefused = true := by decide +kernel
theorem okX10_placesOfAll : mOk mX10_placesOfAll = true := by decide +kernel
theorem okX10_answersOf : mOk mX10_answersOf = true := by decide +kernel
theorem okX10_isAnswerWithout : mOk mX10_isAnswerWithout = true := by decide +kernel
theorem okX10_graphChanged : mOk mX10_graphChanged = true := by decide +kernel
theorem okX10_keepAnswers : mOk mX10_keepAnswers = true := by decide +kernel
theorem okX11_init : mOk mX11_init = true := by decide +kernel
theorem okX11_in : mOk mX11_in = true := by decide +kernel
theorem okX11_refuses : mOk mX11_refuses = true := by decide +kernel
theorem okX11_isVertex : mOk mX11_isVertex = true := by decide +kernel
theorem okX11_isOne : mOk mX11_isOne = true := by decide +kernel
theorem okX11_ones : mOk mX11_ones = true := by decide +kernel
theorem okX11_fromOf : mOk mX11_fromOf = true := by decide +kernel
theorem okX11_letterOf : mOk mX11_letterOf = true := by decide +kernel
theorem okX11_toOf : mOk mX11_toOf = true := by decide +kernel
theorem okX11_isThere : mOk mX11_isThere = true := by decide +kernel
theorem okX11_adds : mOk mX11_adds = true := by decide +kernel
theorem okX11_stays : mOk mX11_stays = true := by decide +kernel
theorem okX11_edge : mOk mX11_edge = true := by decide +kernel
theorem okX11_drop : mOk mX11_drop = true := by decide +kernel
theorem okX11_anew : mOk mX11_anew = true := by decide +kernel
theorem okX11_of : mOk mX11_of = true := by decide +kernel
theorem okX11_degree : mOk mX11_degree = true := by decide +kernel
theorem okX11_type : mOk mX11_type = true := by decide +kernel
theorem okX11_clear : mOk mX11_clear = true := by decide +kernel
theorem okX11_byteAt : mOk mX11_byteAt = true := by decide +kernel
theorem okX11_skips : mOk mX11_skips = true := by decide +kernel
theorem okX11_signsBy : mOk mX11_signsBy = true := by decide +kernel
theorem okX11_part : mOk mX11_part = true := by decide +kernel
theorem okX11_follows : mOk mX11_follows = true := by decide +kernel
theorem okX11_joins : mOk mX11_joins = true := by decide +kernel
end
section
/-! by program: the tables hold -/
theorem okX11_does : mOk mX11_does = true := by decide +kernel
theorem okX11_depth : mOk mX11_depth = true := by decide +kernel
theorem okX11_behind : mOk mX11_behind = true := by decide +kernel
theorem okX11_readsAll : mOk mX11_readsAll = true := by decide +kernel
theorem okX11_reads : mOk mX11_reads = true := by decide +kernel
theorem okX11_goes : mOk mX11_goes = true := by decide +kernel
theorem okX11_comes : mOk mX11_comes = true := by decide +kernel
theorem okX11_statesOf : mOk mX11_statesOf = true := by decide +kernel
theorem okX11_about : mOk mX11_about = true := by decide +kernel
theorem okX11_accepts : mOk mX11_accepts = true := by decide +kernel
theorem okX11_numberOf : mOk mX11_numberOf = true := by decide +kernel
theorem okX11_turns : mOk mX11_turns = true := by decide +kernel
theorem okX11_steps : mOk mX11_steps = true := by decide +kernel
theorem okX11_ways : mOk mX11_ways = true := by decide +kernel
theorem okX11_words : mOk mX11_words = true := by decide +kernel
theorem okX11_beyond : mOk mX11_beyond = true := by decide +kernel
theorem okX11_spreads : mOk mX11_spreads = true := by decide +kernel
end
section
/-! by program: the tables hold -/
theorem okX11_farOf : mOk mX11_farOf = true := by decide +kernel
theorem okX11_endsOf : mOk mX11_endsOf = true := by decide +kernel
theorem okX11_amiss : mOk mX11_amiss = true := by decide +kernel
theorem okX11_answers : mOk mX11_answers = true := by decide +kernel
theorem okX11_ends : mOk mX11_ends = true := by decide +kernel
theorem okX11_pairsOf : mOk mX11_pairsOf = true := by decide +kernel
theorem okX11_pairs : mOk mX11_pairs = true := by decide +kernel
theorem okX11_far : mOk mX11_far = true := by decide +kernel
theorem okX11_count : mOk mX11_count = true := by decide +kernel
theorem okX11_route : mOk mX11_route = true := by decide +kernel
theorem okX11_bridge : mOk mX11_bridge = true := by decide +kernel
theorem okX11_stand : mOk mX11_stand = true := by decide +kernel
theorem okX11_standingOf : mOk mX11_standingOf = true := by decide +kernel
theorem okX11_standing : mOk mX11_standing = true := by decide +kernel
theorem okX11_kept : mOk mX11_kept = true := by decide +kernel
theorem okX11_draw : mOk mX11_draw = true := by decide +kernel
theorem okX11_toldOf : mOk mX11_toldOf = true := by decide +kernel
theorem okX11_told : mOk mX11_told = true := by decide +kernel
theorem okX11_digest : mOk mX11_digest = true := by decide +kernel
theorem okJ6_bitCount_0f7a4 : mOk mJ6_bitCount_0f7a4 = true := by decide +kernel
theorem okJ9_max_7cf53 : mOk mJ9_max_7cf53 = true := by decide +kernel
theorem okJ9_min_7cf53 : mOk mJ9_min_7cf53 = true := by decide +kernel
theorem okJ7_fill_53178 : mOk mJ7_fill_53178 = true := by decide +kernel
end
section
/-! by program: the law's table holds, a piece -/
theorem okLaw0 : ((tbL_law.drop 0).take 48).all (fun q => enOk mL_law q.1 q.2) = true := by decide +kernel
theorem okLaw1 : ((tbL_law.drop 48).take 48).all (fun q => enOk mL_law q.1 q.2) = true := by decide +kernel
theorem okLaw2 : ((tbL_law.drop 96).take 48).all (fun q => enOk mL_law q.1 q.2) = true := by decide +kernel
end
section
/-! by program: the law's table holds, a piece -/
theorem okLaw3 : ((tbL_law.drop 144).take 48).all (fun q => enOk mL_law q.1 q.2) = true := by decide +kernel
theorem okLaw4 : ((tbL_law.drop 192).take 48).all (fun q => enOk mL_law q.1 q.2) = true := by decide +kernel
theorem okLaw5 : ((tbL_law.drop 240).take 48).all (fun q => enOk mL_law q.1 q.2) = true := by decide +kernel
end
section
/-! by program: the law's table holds, a piece -/
theorem okLaw6 : ((tbL_law.drop 288).take 48).all (fun q => enOk mL_law q.1 q.2) = true := by decide +kernel
theorem okLaw7 : ((tbL_law.drop 336).take 48).all (fun q => enOk mL_law q.1 q.2) = true := by decide +kernel
theorem okLaw8 : ((tbL_law.drop 384).take 48).all (fun q => enOk mL_law q.1 q.2) = true := by decide +kernel
end
section
/-! by program: the law's table holds, a piece -/
theorem okLaw9 : ((tbL_law.drop 432).take 48).all (fun q => enOk mL_law q.1 q.2) = true := by decide +kernel
theorem okLaw10 : ((tbL_law.drop 480).take 48).all (fun q => enOk mL_law q.1 q.2) = true := by decide +kernel
theorem okLaw11 : ((tbL_law.drop 528).take 48).all (fun q => enOk mL_law q.1 q.2) = true := by decide +kernel
end
section
/-! by program: the law's table holds, a piece -/
theorem okLaw12 : ((tbL_law.drop 576).take 48).all (fun q => enOk mL_law q.1 q.2) = true := by decide +kernel
theorem okLaw13 : ((tbL_law.drop 624).take 48).all (fun q => enOk mL_law q.1 q.2) = true := by decide +kernel
end
section
theorem all_cut {α : Type} {p : α → Bool} (n : Nat) {l : List α} (h1 : (l.take n).all p = true) (h2 : (l.drop n).all p = true) : l.all p = true := by
  rw [← List.take_append_drop n l, List.all_append, h1, h2]; rfl
theorem okL_law : mOk mL_law = true := by
  show tbL_law.all (fun q => enOk mL_law q.1 q.2) = true
  refine all_cut 48 (l := tbL_law) okLaw0 ?_
  refine all_cut 48 okLaw1 ?_
  rw [List.drop_drop]
  refine all_cut 48 okLaw2 ?_
  rw [List.drop_drop]
  refine all_cut 48 okLaw3 ?_
  rw [List.drop_drop]
  refine all_cut 48 okLaw4 ?_
  rw [List.drop_drop]
  refine all_cut 48 okLaw5 ?_
  rw [List.drop_drop]
  refine all_cut 48 okLaw6 ?_
  rw [List.drop_drop]
  refine all_cut 48 okLaw7 ?_
  rw [List.drop_drop]
  refine all_cut 48 okLaw8 ?_
  rw [List.drop_drop]
  refine all_cut 48 okLaw9 ?_
  rw [List.drop_drop]
  refine all_cut 48 okLaw10 ?_
  rw [List.drop_drop]
  refine all_cut 48 okLaw11 ?_
  rw [List.drop_drop]
  refine all_cut 48 okLaw12 ?_
  rw [List.drop_drop]
  refine all_cut 48 okLaw13 ?_
  rw [List.drop_drop, List.drop_of_length_le (by decide +kernel)]
  rfl
end
section
/-! by program: the calls' words and room -/
theorem kX0_init_9 : cnOk mX0_init 11 0 mX8_init "SpeltRoutes" = true := by decide +kernel
theorem kX0_statesOf_6 : cvOk mX0_statesOf 18 3 mX0_shortestBeyond = true := by decide +kernel
theorem kX0_shortestBeyond_5 : cvOk mX0_shortestBeyond 26 1 mX8_reset = true := by decide +kernel
theorem kX0_shortestBeyond_14 : csOk mX0_shortestBeyond 30 2 mX0_pairOf = true := by decide +kernel
theorem kX0_shortestBeyond_17 : cvOk mX0_shortestBeyond 34 1 mX8_numberOf = true := by decide +kernel
theorem kX0_shortestBeyond_51 : cvOk mX0_shortestBeyond 38 4 mX0_tellsApart = true := by decide +kernel
theorem kX0_shortestBeyond_67 : cvOk mX0_shortestBeyond 42 4 mX0_widens = true := by decide +kernel
theorem kX0_tellsApart_29 : cvOk mX0_tellsApart 49 1 mX2_finishes = true := by decide +kernel
theorem kX0_tellsApart_39 : cvOk mX0_tellsApart 49 1 mX2_finishes = true := by decide +kernel
theorem kX0_widens_29 : cvOk mX0_widens 55 1 mX2_behind = true := by decide +kernel
theorem kX0_widens_38 : cvOk mX0_widens 55 1 mX2_behind = true := by decide +kernel
theorem kX0_widens_73 : csOk mX0_widens 30 2 mX0_pairOf = true := by decide +kernel
theorem kX0_widens_84 : cvOk mX0_widens 34 1 mX8_numberOf = true := by decide +kernel
theorem kX1_spell_40 : cvOk mX1_spell 28 4 mX7_put = true := by decide +kernel
theorem kX1_spell_86 : cvOk mX1_spell 28 4 mX7_put = true := by decide +kernel
theorem kX2_wipe_5 : csOk mX2_wipe 29 2 mJ7_fill_53178 = true := by decide +kernel
theorem kX2_wipe_13 : csOk mX2_wipe 29 2 mJ7_fill_53178 = true := by decide +kernel
theorem kX2_after_2 : cvOk mX2_after 41 1 mX2_behind = true := by decide +kernel
theorem kX3_endsFrom_5 : csOk mX3_endsFrom 21 2 mJ7_fill_53178 = true := by decide +kernel
theorem kX3_endsFrom_13 : csOk mX3_endsFrom 21 2 mJ7_fill_53178 = true := by decide +kernel
theorem kX3_endsFrom_52 : cvOk mX3_endsFrom 27 2 mX3_spreads = true := by decide +kernel
theorem kX3_endsFrom_84 : cvOk mX3_endsFrom 31 1 mX2_finishes = true := by decide +kernel
theorem kX3_spreads_33 : cvOk mX3_spreads 37 1 mX2_behind = true := by decide +kernel
theorem kX4_init_9 : cnOk mX4_init 11 0 mX2_init "SpeltRoutes" = true := by decide +kernel
theorem kX4_faultOf_4 : cvOk mX4_faultOf 31 0 mX2_wipe = true := by decide +kernel
theorem kX4_faultOf_18 : cvOk mX4_faultOf 41 0 mX4_beginChoice = true := by decide +kernel
theorem kX4_faultOf_38 : cvOk mX4_faultOf 44 1 mX4_takes = true := by decide +kernel
theorem kX4_faultOf_70 : cvOk mX4_faultOf 48 0 mX4_closeRow = true := by decide +kernel
theorem kX4_takes_71 : cvOk mX4_takes 57 0 mX4_opens = true := by decide +kernel
theorem kX4_takes_76 : cvOk mX4_takes 61 0 mX4_closes = true := by decide +kernel
theorem kX4_takes_81 : cvOk mX4_takes 64 0 mX4_turns = true := by decide +kernel
theorem kX4_takes_87 : cvOk mX4_takes 67 1 mX4_repeats = true := by decide +kernel
theorem kX4_takes_93 : csOk mX4_takes 70 1 mX4_signsOf = true := by decide +kernel
theorem kX4_takes_96 : cvOk mX4_takes 74 1 mX4_takesPlace = true := by decide +kernel
theorem kX4_takesPlace_19 : cvOk mX4_takesPlace 80 0 mX4_closePart = true := by decide +kernel
theorem kX4_takesPlace_27 : cvOk mX4_takesPlace 83 1 mX2_newPlace = true := by decide +kernel
theorem kX4_takesPlace_34 : cvOk mX4_takesPlace 86 2 mX4_openPart = true := by decide +kernel
theorem kX4_opens_12 : cvOk mX4_opens 80 0 mX4_closePart = true := by decide +kernel
theorem kX4_opens_26 : cvOk mX4_opens 41 0 mX4_beginChoice = true := by decide +kernel
theorem kX4_closes_17 : cvOk mX4_closes 48 0 mX4_closeRow = true := by decide +kernel
theorem kX4_closes_48 : cvOk mX4_closes 86 2 mX4_openPart = true := by decide +kernel
theorem kX4_turns_11 : cvOk mX4_turns 48 0 mX4_closeRow = true := by decide +kernel
theorem kX4_turns_15 : cvOk mX4_turns 90 0 mX4_beginRow = true := by decide +kernel
theorem kX4_repeats_28 : cvOk mX4_repeats 99 2 mX2_link = true := by decide +kernel
theorem kX4_beginChoice_21 : cvOk mX4_beginChoice 90 0 mX4_beginRow = true := by decide +kernel
theorem kX4_closePart_26 : cvOk mX4_closePart 99 2 mX2_link = true := by decide +kernel
theorem kX4_closeRow_1 : cvOk mX4_closeRow 80 0 mX4_closePart = true := by decide +kernel
theorem kX5_lengthOf_5 : csOk mX5_lengthOf 21 2 mJ7_fill_53178 = true := by decide +kernel
theorem kX5_lengthOf_84 : cvOk mX5_lengthOf 33 3 mX5_widens = true := by decide +kernel
theorem kX5_widens_106 : cvOk mX5_widens 54 1 mX2_aheadOf = true := by decide +kernel
theorem kX5_trace_6 : cvOk mX5_trace 58 4 mX5_lengthOf = true := by decide +kernel
theorem kX5_trace_44 : cvOk mX5_trace 62 5 mX5_firstStep = true := by decide +kernel
theorem kX5_trace_76 : cvOk mX5_trace 66 2 mX2_after = true := by decide +kernel
theorem kX5_firstStep_3 : cvOk mX5_firstStep 70 1 mX2_behind = true := by decide +kernel
theorem kX6_size_17 : csOk mX6_size 25 1 mJ6_bitCount_0f7a4 = true := by decide +kernel
theorem kX8_reset_5 : csOk mX8_reset 26 2 mJ7_fill_53178 = true := by decide +kernel
theorem kX9_init_9 : cnOk mX9_init 11 0 mX8_init "SpeltRoutes" = true := by decide +kernel
theorem kX9_routesOf_7 : cvOk mX9_routesOf 28 1 mX8_reset = true := by decide +kernel
theorem kX9_routesOf_12 : cvOk mX9_routesOf 32 1 mX9_stateOf = true := by decide +kernel
theorem kX9_routesOf_52 : cvOk mX9_routesOf 36 2 mX9_advances = true := by decide +kernel
theorem kX9_routesOf_71 : cvOk mX9_routesOf 40 2 mX9_total = true := by decide +kernel
theorem kX9_total_29 : cvOk mX9_total 52 1 mX2_finishes = true := by decide +kernel
theorem kX9_advances_37 : cvOk mX9_advances 65 3 mX9_advancesFrom = true := by decide +kernel
theorem kX9_advancesFrom_46 : cvOk mX9_advancesFrom 78 3 mX9_stateBehind = true := by decide +kernel
theorem kX9_stateBehind_38 : cvOk mX9_stateBehind 85 2 mX2_after = true := by decide +kernel
theorem kX9_stateBehind_41 : cvOk mX9_stateBehind 32 1 mX9_stateOf = true := by decide +kernel
theorem kX9_stateOf_14 : cvOk mX9_stateOf 88 1 mX8_numberOf = true := by decide +kernel
theorem kX10_init_9 : cnOk mX10_init 11 0 mX1_init "SpeltRoutes" = true := by decide +kernel
theorem kX10_init_20 : cnOk mX10_init 18 0 mX7_init "SpeltRoutes" = true := by decide +kernel
theorem kX10_init_31 : cnOk mX10_init 18 0 mX7_init "SpeltRoutes" = true := by decide +kernel
theorem kX10_init_42 : cnOk mX10_init 18 0 mX7_init "SpeltRoutes" = true := by decide +kernel
theorem kX10_init_74 : cnOk mX10_init 45 0 mX4_init "SpeltRoutes" = true := by decide +kernel
theorem kX10_init_85 : cnOk mX10_init 52 0 mX3_init "SpeltRoutes" = true := by decide +kernel
theorem kX10_init_96 : cnOk mX10_init 59 0 mX5_init "SpeltRoutes" = true := by decide +kernel
theorem kX10_init_107 : cnOk mX10_init 66 0 mX9_init "SpeltRoutes" = true := by decide +kernel
theorem kX10_init_118 : cnOk mX10_init 73 0 mX0_init "SpeltRoutes" = true := by decide +kernel
theorem kX10_init_129 : cnOk mX10_init 80 0 mX6_init "SpeltRoutes" = true := by decide +kernel
theorem kX10_init_166 : cnOk mX10_init 94 0 mX2_init "SpeltRoutes" = true := by decide +kernel
theorem kX10_init_192 : cvOk mX10_init 95 4 mX7_put = true := by decide +kernel
theorem kX10_edge_1 : csOk mX10_edge 99 1 mX10_isVertex = true := by decide +kernel
theorem kX10_edge_17 : csOk mX10_edge 99 1 mX10_isVertex = true := by decide +kernel
theorem kX10_edge_26 : cvOk mX10_edge 103 1 mX10_refuse = true := by decide +kernel
theorem kX10_edge_37 : cvOk mX10_edge 107 3 mX1_has = true := by decide +kernel
theorem kX10_edge_46 : cvOk mX10_edge 103 1 mX10_refuse = true := by decide +kernel
theorem kX10_edge_65 : cvOk mX10_edge 103 1 mX10_refuse = true := by decide +kernel
theorem kX10_edge_73 : cvOk mX10_edge 114 0 mX6_size = true := by decide +kernel
theorem kX10_edge_85 : cvOk mX10_edge 117 3 mX1_put = true := by decide +kernel
theorem kX10_edge_89 : cvOk mX10_edge 120 0 mX10_graphChanged = true := by decide +kernel
theorem kX10_edge_96 : cvOk mX10_edge 114 0 mX6_size = true := by decide +kernel
theorem kX10_drop_5 : cvOk mX10_drop 126 1 mX1_isEdge = true := by decide +kernel
theorem kX10_drop_14 : cvOk mX10_drop 103 1 mX10_refuse = true := by decide +kernel
theorem kX10_drop_22 : cvOk mX10_drop 114 0 mX6_size = true := by decide +kernel
theorem kX10_drop_31 : cvOk mX10_drop 129 1 mX1_remove = true := by decide +kernel
theorem kX10_drop_35 : cvOk mX10_drop 120 0 mX10_graphChanged = true := by decide +kernel
theorem kX10_drop_43 : cvOk mX10_drop 114 0 mX6_size = true := by decide +kernel
theorem kX10_anew_17 : cvOk mX10_anew 120 0 mX10_graphChanged = true := by decide +kernel
theorem kX10_of_5 : cvOk mX10_of 126 1 mX1_isEdge = true := by decide +kernel
theorem kX10_of_23 : cvOk mX10_of 103 1 mX10_refuse = true := by decide +kernel
theorem kX10_degree_1 : csOk mX10_degree 99 1 mX10_isVertex = true := by decide +kernel
theorem kX10_degree_19 : cvOk mX10_degree 103 1 mX10_refuse = true := by decide +kernel
theorem kX10_type_13 : cvOk mX10_type 103 1 mX10_refuse = true := by decide +kernel
theorem kX10_type_29 : cvOk mX10_type 103 1 mX10_refuse = true := by decide +kernel
theorem kX10_reads_1 : csOk mX10_reads 145 1 mX10_isExpression = true := by decide +kernel
theorem kX10_reads_10 : cvOk mX10_reads 103 1 mX10_refuse = true := by decide +kernel
theorem kX10_reads_26 : cvOk mX10_reads 148 2 mX4_faultOf = true := by decide +kernel
theorem kX10_reads_53 : cvOk mX10_reads 156 1 mX2_become = true := by decide +kernel
theorem kX10_reads_68 : cvOk mX10_reads 163 0 mX10_keepAnswers = true := by decide +kernel
theorem kX10_about_1 : csOk mX10_about 145 1 mX10_isExpression = true := by decide +kernel
theorem kX10_about_19 : cvOk mX10_about 103 1 mX10_refuse = true := by decide +kernel
theorem kX10_about_79 : cvOk mX10_about 173 1 mX2_finishes = true := by decide +kernel
end
section
/-! by program: the calls' words and room -/
theorem kX10_about_93 : cvOk mX10_about 176 1 mX2_behind = true := by decide +kernel
theorem kX10_about_96 : csOk mX10_about 179 1 mJ6_bitCount_0f7a4 = true := by decide +kernel
theorem kX10_about_107 : csOk mX10_about 179 1 mJ6_bitCount_0f7a4 = true := by decide +kernel
theorem kX10_about_117 : cvOk mX10_about 187 1 mX0_statesOf = true := by decide +kernel
theorem kX10_about_120 : cvOk mX10_about 191 1 mX10_orRefused = true := by decide +kernel
theorem kX10_accepts_1 : csOk mX10_accepts 145 1 mX10_isExpression = true := by decide +kernel
theorem kX10_accepts_9 : csOk mX10_accepts 194 2 mX10_isWord = true := by decide +kernel
theorem kX10_accepts_18 : cvOk mX10_accepts 103 1 mX10_refuse = true := by decide +kernel
theorem kX10_accepts_41 : cvOk mX10_accepts 103 1 mX10_refuse = true := by decide +kernel
theorem kX10_accepts_93 : cvOk mX10_accepts 198 2 mX2_after = true := by decide +kernel
theorem kX10_accepts_119 : cvOk mX10_accepts 173 1 mX2_finishes = true := by decide +kernel
theorem kX10_words_1 : csOk mX10_words 145 1 mX10_isExpression = true := by decide +kernel
theorem kX10_words_20 : cvOk mX10_words 103 1 mX10_refuse = true := by decide +kernel
theorem kX10_words_39 : cvOk mX10_words 103 1 mX10_refuse = true := by decide +kernel
theorem kX10_words_61 : cvOk mX10_words 207 5 mX9_routesOf = true := by decide +kernel
theorem kX10_words_64 : cvOk mX10_words 191 1 mX10_orRefused = true := by decide +kernel
theorem kX10_beyond_1 : csOk mX10_beyond 145 1 mX10_isExpression = true := by decide +kernel
theorem kX10_beyond_8 : csOk mX10_beyond 145 1 mX10_isExpression = true := by decide +kernel
theorem kX10_beyond_17 : cvOk mX10_beyond 103 1 mX10_refuse = true := by decide +kernel
theorem kX10_beyond_48 : cvOk mX10_beyond 103 1 mX10_refuse = true := by decide +kernel
theorem kX10_beyond_72 : cvOk mX10_beyond 211 3 mX0_shortestBeyond = true := by decide +kernel
theorem kX10_beyond_75 : cvOk mX10_beyond 191 1 mX10_orRefused = true := by decide +kernel
theorem kX10_answers_4 : cvOk mX10_answers 215 3 mX10_refusalOf = true := by decide +kernel
theorem kX10_answers_17 : cvOk mX10_answers 103 1 mX10_refuse = true := by decide +kernel
theorem kX10_answers_36 : cvOk mX10_answers 219 3 mX3_endsFrom = true := by decide +kernel
theorem kX10_ends_4 : cvOk mX10_ends 215 3 mX10_refusalOf = true := by decide +kernel
theorem kX10_ends_14 : cvOk mX10_ends 103 1 mX10_refuse = true := by decide +kernel
theorem kX10_ends_33 : cvOk mX10_ends 219 3 mX3_endsFrom = true := by decide +kernel
theorem kX10_pairs_4 : cvOk mX10_pairs 215 3 mX10_refusalOf = true := by decide +kernel
theorem kX10_pairs_14 : cvOk mX10_pairs 103 1 mX10_refuse = true := by decide +kernel
theorem kX10_pairs_25 : cvOk mX10_pairs 223 1 mX10_answersOf = true := by decide +kernel
theorem kX10_far_4 : cvOk mX10_far 215 3 mX10_refusalOf = true := by decide +kernel
theorem kX10_far_17 : cvOk mX10_far 103 1 mX10_refuse = true := by decide +kernel
theorem kX10_far_37 : cvOk mX10_far 226 4 mX5_lengthOf = true := by decide +kernel
theorem kX10_count_21 : cvOk mX10_count 215 3 mX10_refusalOf = true := by decide +kernel
theorem kX10_count_34 : cvOk mX10_count 103 1 mX10_refuse = true := by decide +kernel
theorem kX10_count_57 : cvOk mX10_count 207 5 mX9_routesOf = true := by decide +kernel
theorem kX10_count_60 : cvOk mX10_count 191 1 mX10_orRefused = true := by decide +kernel
theorem kX10_route_25 : cvOk mX10_route 215 3 mX10_refusalOf = true := by decide +kernel
theorem kX10_route_38 : cvOk mX10_route 103 1 mX10_refuse = true := by decide +kernel
theorem kX10_route_58 : cvOk mX10_route 230 4 mX5_trace = true := by decide +kernel
theorem kX10_bridge_4 : cvOk mX10_bridge 215 3 mX10_refusalOf = true := by decide +kernel
theorem kX10_bridge_17 : cvOk mX10_bridge 103 1 mX10_refuse = true := by decide +kernel
theorem kX10_bridge_37 : cvOk mX10_bridge 230 4 mX5_trace = true := by decide +kernel
theorem kX10_bridge_122 : cvOk mX10_bridge 243 4 mX10_isAnswerWithout = true := by decide +kernel
theorem kX10_stand_6 : csOk mX10_stand 145 1 mX10_isExpression = true := by decide +kernel
theorem kX10_stand_15 : cvOk mX10_stand 103 1 mX10_refuse = true := by decide +kernel
theorem kX10_stand_39 : cvOk mX10_stand 103 1 mX10_refuse = true := by decide +kernel
theorem kX10_stand_68 : cvOk mX10_stand 163 0 mX10_keepAnswers = true := by decide +kernel
theorem kX10_stand_75 : cvOk mX10_stand 114 0 mX6_size = true := by decide +kernel
theorem kX10_standing_44 : cvOk mX10_standing 114 0 mX6_size = true := by decide +kernel
theorem kX10_standing_67 : cvOk mX10_standing 103 1 mX10_refuse = true := by decide +kernel
theorem kX10_kept_1 : csOk mX10_kept 99 1 mX10_isVertex = true := by decide +kernel
theorem kX10_kept_8 : csOk mX10_kept 99 1 mX10_isVertex = true := by decide +kernel
theorem kX10_kept_17 : cvOk mX10_kept 103 1 mX10_refuse = true := by decide +kernel
theorem kX10_kept_35 : cvOk mX10_kept 103 1 mX10_refuse = true := by decide +kernel
theorem kX10_draw_23 : cvOk mX10_draw 103 1 mX10_refuse = true := by decide +kernel
theorem kX10_draw_107 : cvOk mX10_draw 107 3 mX1_has = true := by decide +kernel
theorem kX10_draw_123 : cvOk mX10_draw 117 3 mX1_put = true := by decide +kernel
theorem kX10_draw_133 : cvOk mX10_draw 120 0 mX10_graphChanged = true := by decide +kernel
theorem kX10_told_73 : cvOk mX10_told 267 0 mX10_placesOfAll = true := by decide +kernel
theorem kX10_told_88 : cvOk mX10_told 103 1 mX10_refuse = true := by decide +kernel
theorem kX10_digest_19 : cvOk mX10_digest 274 1 mX10_told = true := by decide +kernel
theorem kX10_digest_132 : cvOk mX10_digest 223 1 mX10_answersOf = true := by decide +kernel
theorem kX10_digest_162 : cvOk mX10_digest 277 1 mX10_standing = true := by decide +kernel
theorem kX10_refusalOf_1 : csOk mX10_refusalOf 145 1 mX10_isExpression = true := by decide +kernel
theorem kX10_refusalOf_8 : csOk mX10_refusalOf 99 1 mX10_isVertex = true := by decide +kernel
theorem kX10_refusalOf_15 : csOk mX10_refusalOf 99 1 mX10_isVertex = true := by decide +kernel
theorem kX10_orRefused_9 : cvOk mX10_orRefused 103 1 mX10_refuse = true := by decide +kernel
theorem kX10_answersOf_21 : cvOk mX10_answersOf 219 3 mX3_endsFrom = true := by decide +kernel
theorem kX10_answersOf_24 : csOk mX10_answersOf 179 1 mJ6_bitCount_0f7a4 = true := by decide +kernel
theorem kX10_isAnswerWithout_10 : cvOk mX10_isAnswerWithout 280 2 mX1_spell = true := by decide +kernel
theorem kX10_isAnswerWithout_23 : cvOk mX10_isAnswerWithout 219 3 mX3_endsFrom = true := by decide +kernel
theorem kX10_graphChanged_9 : cvOk mX10_graphChanged 280 2 mX1_spell = true := by decide +kernel
theorem kX10_graphChanged_13 : cvOk mX10_graphChanged 163 0 mX10_keepAnswers = true := by decide +kernel
theorem kX10_keepAnswers_52 : cvOk mX10_keepAnswers 219 3 mX3_endsFrom = true := by decide +kernel
theorem kX11_isVertex_4 : csOk mX11_isVertex 84 3 mX11_in = true := by decide +kernel
theorem kX11_isOne_3 : csOk mX11_isOne 84 3 mX11_in = true := by decide +kernel
theorem kX11_isThere_23 : cvOk mX11_isThere 91 1 mX11_fromOf = true := by decide +kernel
theorem kX11_isThere_33 : cvOk mX11_isThere 95 1 mX11_letterOf = true := by decide +kernel
theorem kX11_isThere_43 : cvOk mX11_isThere 98 1 mX11_toOf = true := by decide +kernel
theorem kX11_stays_23 : cvOk mX11_stays 101 2 mX11_endsOf = true := by decide +kernel
theorem kX11_stays_58 : csOk mX11_stays 105 1 mX11_ones = true := by decide +kernel
theorem kX11_edge_1 : csOk mX11_edge 108 1 mX11_isVertex = true := by decide +kernel
theorem kX11_edge_10 : csOk mX11_edge 84 3 mX11_in = true := by decide +kernel
theorem kX11_edge_17 : csOk mX11_edge 108 1 mX11_isVertex = true := by decide +kernel
theorem kX11_edge_26 : cvOk mX11_edge 112 1 mX11_refuses = true := by decide +kernel
theorem kX11_edge_34 : cvOk mX11_edge 115 3 mX11_isThere = true := by decide +kernel
theorem kX11_edge_43 : cvOk mX11_edge 112 1 mX11_refuses = true := by decide +kernel
theorem kX11_edge_59 : cvOk mX11_edge 112 1 mX11_refuses = true := by decide +kernel
theorem kX11_edge_67 : cvOk mX11_edge 118 3 mX11_adds = true := by decide +kernel
theorem kX11_edge_72 : cvOk mX11_edge 122 1 mX11_stays = true := by decide +kernel
theorem kX11_drop_8 : csOk mX11_drop 84 3 mX11_in = true := by decide +kernel
theorem kX11_drop_17 : cvOk mX11_drop 112 1 mX11_refuses = true := by decide +kernel
theorem kX11_drop_67 : cvOk mX11_drop 122 1 mX11_stays = true := by decide +kernel
theorem kX11_anew_12 : cvOk mX11_anew 122 1 mX11_stays = true := by decide +kernel
theorem kX11_of_8 : csOk mX11_of 84 3 mX11_in = true := by decide +kernel
theorem kX11_of_17 : csOk mX11_of 84 3 mX11_in = true := by decide +kernel
theorem kX11_of_39 : cvOk mX11_of 112 1 mX11_refuses = true := by decide +kernel
theorem kX11_degree_1 : csOk mX11_degree 108 1 mX11_isVertex = true := by decide +kernel
theorem kX11_degree_10 : csOk mX11_degree 84 3 mX11_in = true := by decide +kernel
theorem kX11_degree_19 : cvOk mX11_degree 112 1 mX11_refuses = true := by decide +kernel
theorem kX11_degree_45 : cvOk mX11_degree 91 1 mX11_fromOf = true := by decide +kernel
theorem kX11_degree_54 : cvOk mX11_degree 98 1 mX11_toOf = true := by decide +kernel
theorem kX11_type_4 : csOk mX11_type 84 3 mX11_in = true := by decide +kernel
theorem kX11_type_13 : cvOk mX11_type 112 1 mX11_refuses = true := by decide +kernel
theorem kX11_type_29 : cvOk mX11_type 112 1 mX11_refuses = true := by decide +kernel
theorem kX11_skips_5 : cvOk mX11_skips 138 1 mX11_byteAt = true := by decide +kernel
theorem kX11_signsBy_5 : csOk mX11_signsBy 84 3 mX11_in = true := by decide +kernel
theorem kX11_signsBy_25 : csOk mX11_signsBy 84 3 mX11_in = true := by decide +kernel
end
section
/-! by program: the calls' words and room -/
theorem kX11_joins_41 : cvOk mX11_joins 144 2 mX11_follows = true := by decide +kernel
theorem kX11_does_63 : cvOk mX11_does 151 1 mX11_joins = true := by decide +kernel
theorem kX11_behind_6 : cvOk mX11_behind 155 1 mX11_does = true := by decide +kernel
theorem kX11_readsAll_65 : cvOk mX11_readsAll 162 0 mX11_skips = true := by decide +kernel
theorem kX11_readsAll_73 : cvOk mX11_readsAll 138 1 mX11_byteAt = true := by decide +kernel
theorem kX11_readsAll_78 : csOk mX11_readsAll 165 1 mX11_signsBy = true := by decide +kernel
theorem kX11_readsAll_100 : cvOk mX11_readsAll 168 1 mX11_behind = true := by decide +kernel
theorem kX11_readsAll_119 : csOk mX11_readsAll 165 1 mX11_signsBy = true := by decide +kernel
theorem kX11_readsAll_153 : cvOk mX11_readsAll 171 3 mX11_part = true := by decide +kernel
theorem kX11_readsAll_179 : cvOk mX11_readsAll 168 1 mX11_behind = true := by decide +kernel
theorem kX11_readsAll_198 : cvOk mX11_readsAll 162 0 mX11_skips = true := by decide +kernel
theorem kX11_readsAll_206 : cvOk mX11_readsAll 138 1 mX11_byteAt = true := by decide +kernel
theorem kX11_readsAll_228 : cvOk mX11_readsAll 171 3 mX11_part = true := by decide +kernel
theorem kX11_readsAll_311 : cvOk mX11_readsAll 144 2 mX11_follows = true := by decide +kernel
theorem kX11_readsAll_351 : cvOk mX11_readsAll 155 1 mX11_does = true := by decide +kernel
theorem kX11_readsAll_390 : cvOk mX11_readsAll 174 0 mX11_depth = true := by decide +kernel
theorem kX11_readsAll_398 : cvOk mX11_readsAll 155 1 mX11_does = true := by decide +kernel
theorem kX11_readsAll_424 : cvOk mX11_readsAll 174 0 mX11_depth = true := by decide +kernel
theorem kX11_readsAll_432 : cvOk mX11_readsAll 155 1 mX11_does = true := by decide +kernel
theorem kX11_reads_1 : csOk mX11_reads 178 1 mX11_isOne = true := by decide +kernel
theorem kX11_reads_10 : cvOk mX11_reads 112 1 mX11_refuses = true := by decide +kernel
theorem kX11_reads_15 : cvOk mX11_reads 181 0 mX11_readsAll = true := by decide +kernel
theorem kX11_reads_133 : cvOk mX11_reads 122 1 mX11_stays = true := by decide +kernel
theorem kX11_statesOf_37 : cvOk mX11_statesOf 185 3 mX11_goes = true := by decide +kernel
theorem kX11_statesOf_99 : cvOk mX11_statesOf 112 1 mX11_refuses = true := by decide +kernel
theorem kX11_about_1 : csOk mX11_about 178 1 mX11_isOne = true := by decide +kernel
theorem kX11_about_10 : csOk mX11_about 84 3 mX11_in = true := by decide +kernel
theorem kX11_about_19 : cvOk mX11_about 112 1 mX11_refuses = true := by decide +kernel
theorem kX11_about_95 : csOk mX11_about 105 1 mX11_ones = true := by decide +kernel
theorem kX11_about_108 : csOk mX11_about 105 1 mX11_ones = true := by decide +kernel
theorem kX11_about_114 : cvOk mX11_about 190 1 mX11_statesOf = true := by decide +kernel
theorem kX11_accepts_1 : csOk mX11_accepts 178 1 mX11_isOne = true := by decide +kernel
theorem kX11_accepts_11 : csOk mX11_accepts 84 3 mX11_in = true := by decide +kernel
theorem kX11_accepts_24 : cvOk mX11_accepts 112 1 mX11_refuses = true := by decide +kernel
theorem kX11_accepts_113 : cvOk mX11_accepts 112 1 mX11_refuses = true := by decide +kernel
theorem kX11_accepts_129 : cvOk mX11_accepts 112 1 mX11_refuses = true := by decide +kernel
theorem kX11_accepts_157 : cvOk mX11_accepts 185 3 mX11_goes = true := by decide +kernel
theorem kX11_turns_11 : cvOk mX11_turns 185 3 mX11_goes = true := by decide +kernel
theorem kX11_turns_14 : cvOk mX11_turns 196 1 mX11_numberOf = true := by decide +kernel
theorem kX11_steps_98 : cvOk mX11_steps 203 5 mX11_turns = true := by decide +kernel
theorem kX11_steps_138 : cvOk mX11_steps 91 1 mX11_fromOf = true := by decide +kernel
theorem kX11_steps_151 : cvOk mX11_steps 98 1 mX11_toOf = true := by decide +kernel
theorem kX11_steps_159 : cvOk mX11_steps 95 1 mX11_letterOf = true := by decide +kernel
theorem kX11_steps_164 : cvOk mX11_steps 203 5 mX11_turns = true := by decide +kernel
theorem kX11_steps_173 : cvOk mX11_steps 98 1 mX11_toOf = true := by decide +kernel
theorem kX11_steps_186 : cvOk mX11_steps 91 1 mX11_fromOf = true := by decide +kernel
theorem kX11_steps_194 : cvOk mX11_steps 95 1 mX11_letterOf = true := by decide +kernel
theorem kX11_steps_201 : cvOk mX11_steps 203 5 mX11_turns = true := by decide +kernel
theorem kX11_ways_65 : cvOk mX11_ways 207 2 mX11_steps = true := by decide +kernel
theorem kX11_ways_74 : cvOk mX11_ways 112 1 mX11_refuses = true := by decide +kernel
theorem kX11_ways_156 : cvOk mX11_ways 112 1 mX11_refuses = true := by decide +kernel
theorem kX11_words_1 : csOk mX11_words 178 1 mX11_isOne = true := by decide +kernel
theorem kX11_words_11 : csOk mX11_words 84 3 mX11_in = true := by decide +kernel
theorem kX11_words_20 : cvOk mX11_words 112 1 mX11_refuses = true := by decide +kernel
theorem kX11_words_36 : cvOk mX11_words 112 1 mX11_refuses = true := by decide +kernel
theorem kX11_words_48 : cvOk mX11_words 211 5 mX11_ways = true := by decide +kernel
theorem kX11_beyond_1 : csOk mX11_beyond 178 1 mX11_isOne = true := by decide +kernel
theorem kX11_beyond_8 : csOk mX11_beyond 178 1 mX11_isOne = true := by decide +kernel
theorem kX11_beyond_17 : cvOk mX11_beyond 112 1 mX11_refuses = true := by decide +kernel
theorem kX11_beyond_42 : cvOk mX11_beyond 112 1 mX11_refuses = true := by decide +kernel
theorem kX11_beyond_164 : cvOk mX11_beyond 185 3 mX11_goes = true := by decide +kernel
theorem kX11_beyond_180 : cvOk mX11_beyond 185 3 mX11_goes = true := by decide +kernel
theorem kX11_beyond_254 : cvOk mX11_beyond 112 1 mX11_refuses = true := by decide +kernel
theorem kX11_spreads_45 : cvOk mX11_spreads 98 1 mX11_toOf = true := by decide +kernel
theorem kX11_spreads_58 : cvOk mX11_spreads 91 1 mX11_fromOf = true := by decide +kernel
theorem kX11_spreads_64 : cvOk mX11_spreads 95 1 mX11_letterOf = true := by decide +kernel
theorem kX11_spreads_67 : cvOk mX11_spreads 185 3 mX11_goes = true := by decide +kernel
theorem kX11_spreads_78 : cvOk mX11_spreads 91 1 mX11_fromOf = true := by decide +kernel
theorem kX11_spreads_91 : cvOk mX11_spreads 98 1 mX11_toOf = true := by decide +kernel
theorem kX11_spreads_97 : cvOk mX11_spreads 95 1 mX11_letterOf = true := by decide +kernel
theorem kX11_spreads_102 : cvOk mX11_spreads 185 3 mX11_goes = true := by decide +kernel
theorem kX11_farOf_85 : cvOk mX11_farOf 215 1 mX11_spreads = true := by decide +kernel
theorem kX11_endsOf_4 : cvOk mX11_endsOf 218 3 mX11_farOf = true := by decide +kernel
theorem kX11_amiss_1 : csOk mX11_amiss 178 1 mX11_isOne = true := by decide +kernel
theorem kX11_amiss_8 : csOk mX11_amiss 108 1 mX11_isVertex = true := by decide +kernel
theorem kX11_amiss_15 : csOk mX11_amiss 108 1 mX11_isVertex = true := by decide +kernel
theorem kX11_answers_4 : cvOk mX11_answers 221 3 mX11_amiss = true := by decide +kernel
theorem kX11_answers_17 : cvOk mX11_answers 112 1 mX11_refuses = true := by decide +kernel
theorem kX11_answers_27 : cvOk mX11_answers 218 3 mX11_farOf = true := by decide +kernel
theorem kX11_ends_4 : cvOk mX11_ends 221 3 mX11_amiss = true := by decide +kernel
theorem kX11_ends_14 : cvOk mX11_ends 112 1 mX11_refuses = true := by decide +kernel
theorem kX11_ends_23 : cvOk mX11_ends 101 2 mX11_endsOf = true := by decide +kernel
theorem kX11_pairsOf_14 : cvOk mX11_pairsOf 101 2 mX11_endsOf = true := by decide +kernel
theorem kX11_pairsOf_17 : csOk mX11_pairsOf 105 1 mX11_ones = true := by decide +kernel
theorem kX11_pairs_4 : cvOk mX11_pairs 221 3 mX11_amiss = true := by decide +kernel
theorem kX11_pairs_14 : cvOk mX11_pairs 112 1 mX11_refuses = true := by decide +kernel
theorem kX11_pairs_22 : cvOk mX11_pairs 224 1 mX11_pairsOf = true := by decide +kernel
theorem kX11_far_4 : cvOk mX11_far 221 3 mX11_amiss = true := by decide +kernel
theorem kX11_far_17 : cvOk mX11_far 112 1 mX11_refuses = true := by decide +kernel
theorem kX11_far_27 : cvOk mX11_far 218 3 mX11_farOf = true := by decide +kernel
theorem kX11_count_5 : csOk mX11_count 84 3 mX11_in = true := by decide +kernel
theorem kX11_count_15 : cvOk mX11_count 221 3 mX11_amiss = true := by decide +kernel
theorem kX11_count_33 : cvOk mX11_count 112 1 mX11_refuses = true := by decide +kernel
theorem kX11_count_44 : cvOk mX11_count 211 5 mX11_ways = true := by decide +kernel
theorem kX11_route_9 : csOk mX11_route 84 3 mX11_in = true := by decide +kernel
theorem kX11_route_24 : cvOk mX11_route 221 3 mX11_amiss = true := by decide +kernel
theorem kX11_route_37 : cvOk mX11_route 112 1 mX11_refuses = true := by decide +kernel
theorem kX11_route_45 : cvOk mX11_route 218 3 mX11_farOf = true := by decide +kernel
theorem kX11_route_168 : cvOk mX11_route 91 1 mX11_fromOf = true := by decide +kernel
theorem kX11_route_190 : cvOk mX11_route 98 1 mX11_toOf = true := by decide +kernel
theorem kX11_route_198 : cvOk mX11_route 95 1 mX11_letterOf = true := by decide +kernel
theorem kX11_route_201 : cvOk mX11_route 227 3 mX11_comes = true := by decide +kernel
theorem kX11_route_218 : cvOk mX11_route 98 1 mX11_toOf = true := by decide +kernel
theorem kX11_route_240 : cvOk mX11_route 91 1 mX11_fromOf = true := by decide +kernel
theorem kX11_route_248 : cvOk mX11_route 95 1 mX11_letterOf = true := by decide +kernel
theorem kX11_route_253 : cvOk mX11_route 227 3 mX11_comes = true := by decide +kernel
theorem kX11_route_355 : cvOk mX11_route 98 1 mX11_toOf = true := by decide +kernel
theorem kX11_route_364 : cvOk mX11_route 91 1 mX11_fromOf = true := by decide +kernel
theorem kX11_route_376 : cvOk mX11_route 95 1 mX11_letterOf = true := by decide +kernel
theorem kX11_route_390 : cvOk mX11_route 185 3 mX11_goes = true := by decide +kernel
end
section
/-! by program: the calls' words and room -/
theorem kX11_route_403 : cvOk mX11_route 91 1 mX11_fromOf = true := by decide +kernel
theorem kX11_route_412 : cvOk mX11_route 98 1 mX11_toOf = true := by decide +kernel
theorem kX11_bridge_4 : cvOk mX11_bridge 221 3 mX11_amiss = true := by decide +kernel
theorem kX11_bridge_17 : cvOk mX11_bridge 112 1 mX11_refuses = true := by decide +kernel
theorem kX11_bridge_28 : cvOk mX11_bridge 218 3 mX11_farOf = true := by decide +kernel
theorem kX11_bridge_58 : cvOk mX11_bridge 218 3 mX11_farOf = true := by decide +kernel
theorem kX11_stand_3 : csOk mX11_stand 84 3 mX11_in = true := by decide +kernel
theorem kX11_stand_12 : cvOk mX11_stand 112 1 mX11_refuses = true := by decide +kernel
theorem kX11_stand_32 : cvOk mX11_stand 112 1 mX11_refuses = true := by decide +kernel
theorem kX11_stand_77 : cvOk mX11_stand 101 2 mX11_endsOf = true := by decide +kernel
theorem kX11_stand_88 : csOk mX11_stand 105 1 mX11_ones = true := by decide +kernel
theorem kX11_standingOf_17 : csOk mX11_standingOf 105 1 mX11_ones = true := by decide +kernel
theorem kX11_standing_3 : csOk mX11_standing 84 3 mX11_in = true := by decide +kernel
theorem kX11_standing_11 : cvOk mX11_standing 230 1 mX11_standingOf = true := by decide +kernel
theorem kX11_standing_20 : cvOk mX11_standing 112 1 mX11_refuses = true := by decide +kernel
theorem kX11_kept_1 : csOk mX11_kept 108 1 mX11_isVertex = true := by decide +kernel
theorem kX11_kept_8 : csOk mX11_kept 108 1 mX11_isVertex = true := by decide +kernel
theorem kX11_kept_17 : cvOk mX11_kept 112 1 mX11_refuses = true := by decide +kernel
theorem kX11_kept_31 : cvOk mX11_kept 112 1 mX11_refuses = true := by decide +kernel
theorem kX11_draw_4 : csOk mX11_draw 84 3 mX11_in = true := by decide +kernel
theorem kX11_draw_14 : csOk mX11_draw 84 3 mX11_in = true := by decide +kernel
theorem kX11_draw_23 : cvOk mX11_draw 112 1 mX11_refuses = true := by decide +kernel
theorem kX11_draw_101 : cvOk mX11_draw 115 3 mX11_isThere = true := by decide +kernel
theorem kX11_draw_114 : cvOk mX11_draw 118 3 mX11_adds = true := by decide +kernel
theorem kX11_draw_125 : cvOk mX11_draw 122 1 mX11_stays = true := by decide +kernel
theorem kX11_told_4 : csOk mX11_told 84 3 mX11_in = true := by decide +kernel
theorem kX11_told_12 : cvOk mX11_told 250 1 mX11_toldOf = true := by decide +kernel
theorem kX11_told_21 : cvOk mX11_told 112 1 mX11_refuses = true := by decide +kernel
theorem kX11_digest_19 : cvOk mX11_digest 250 1 mX11_toldOf = true := by decide +kernel
theorem kX11_digest_90 : cvOk mX11_digest 224 1 mX11_pairsOf = true := by decide +kernel
theorem kX11_digest_116 : cvOk mX11_digest 230 1 mX11_standingOf = true := by decide +kernel
theorem kL_law_4 : ciOk mL_law 9 0 mX10_init = true := by decide +kernel
theorem kL_law_12 : ciOk mL_law 12 0 mX11_init = true := by decide +kernel
theorem kL_law_164 : cvOk mL_law 13 3 mX10_edge = true := by decide +kernel
theorem kL_law_183 : cvOk mL_law 17 3 mX11_edge = true := by decide +kernel
theorem kL_law_197 : cvOk mL_law 18 1 mX10_drop = true := by decide +kernel
theorem kL_law_206 : cvOk mL_law 22 1 mX11_drop = true := by decide +kernel
theorem kL_law_215 : cvOk mL_law 23 0 mX10_anew = true := by decide +kernel
theorem kL_law_219 : cvOk mL_law 27 0 mX11_anew = true := by decide +kernel
theorem kL_law_238 : cvOk mL_law 28 2 mX10_of = true := by decide +kernel
theorem kL_law_252 : cvOk mL_law 32 2 mX11_of = true := by decide +kernel
theorem kL_law_271 : cvOk mL_law 33 2 mX10_degree = true := by decide +kernel
theorem kL_law_285 : cvOk mL_law 36 2 mX11_degree = true := by decide +kernel
theorem kL_law_299 : cvOk mL_law 37 1 mX10_type = true := by decide +kernel
theorem kL_law_308 : cvOk mL_law 40 1 mX11_type = true := by decide +kernel
theorem kL_law_317 : cvOk mL_law 41 0 mX10_clear = true := by decide +kernel
theorem kL_law_321 : cvOk mL_law 44 0 mX11_clear = true := by decide +kernel
theorem kL_law_335 : cvOk mL_law 45 1 mX10_reads = true := by decide +kernel
theorem kL_law_344 : cvOk mL_law 48 1 mX11_reads = true := by decide +kernel
theorem kL_law_363 : cvOk mL_law 49 2 mX10_about = true := by decide +kernel
theorem kL_law_377 : cvOk mL_law 52 2 mX11_about = true := by decide +kernel
theorem kL_law_401 : cvOk mL_law 53 3 mX10_accepts = true := by decide +kernel
theorem kL_law_420 : cvOk mL_law 56 3 mX11_accepts = true := by decide +kernel
theorem kL_law_439 : cvOk mL_law 57 2 mX10_words = true := by decide +kernel
theorem kL_law_453 : cvOk mL_law 60 2 mX11_words = true := by decide +kernel
theorem kL_law_472 : cvOk mL_law 61 2 mX10_beyond = true := by decide +kernel
theorem kL_law_486 : cvOk mL_law 64 2 mX11_beyond = true := by decide +kernel
theorem kL_law_510 : cvOk mL_law 65 3 mX10_answers = true := by decide +kernel
theorem kL_law_529 : cvOk mL_law 68 3 mX11_answers = true := by decide +kernel
theorem kL_law_548 : cvOk mL_law 69 2 mX10_ends = true := by decide +kernel
theorem kL_law_562 : cvOk mL_law 72 2 mX11_ends = true := by decide +kernel
theorem kL_law_576 : cvOk mL_law 73 1 mX10_pairs = true := by decide +kernel
theorem kL_law_585 : cvOk mL_law 76 1 mX11_pairs = true := by decide +kernel
theorem kL_law_609 : cvOk mL_law 77 3 mX10_far = true := by decide +kernel
theorem kL_law_628 : cvOk mL_law 80 3 mX11_far = true := by decide +kernel
theorem kL_law_657 : cvOk mL_law 81 4 mX10_count = true := by decide +kernel
theorem kL_law_681 : cvOk mL_law 85 4 mX11_count = true := by decide +kernel
theorem kL_law_715 : cvOk mL_law 86 5 mX10_route = true := by decide +kernel
theorem kL_law_744 : cvOk mL_law 90 5 mX11_route = true := by decide +kernel
theorem kL_law_768 : cvOk mL_law 91 3 mX10_bridge = true := by decide +kernel
theorem kL_law_787 : cvOk mL_law 94 3 mX11_bridge = true := by decide +kernel
theorem kL_law_801 : cvOk mL_law 95 1 mX10_stand = true := by decide +kernel
theorem kL_law_810 : cvOk mL_law 98 1 mX11_stand = true := by decide +kernel
theorem kL_law_824 : cvOk mL_law 99 1 mX10_standing = true := by decide +kernel
theorem kL_law_833 : cvOk mL_law 102 1 mX11_standing = true := by decide +kernel
theorem kL_law_852 : cvOk mL_law 103 2 mX10_kept = true := by decide +kernel
theorem kL_law_866 : cvOk mL_law 106 2 mX11_kept = true := by decide +kernel
theorem kL_law_885 : cvOk mL_law 107 2 mX10_draw = true := by decide +kernel
theorem kL_law_899 : cvOk mL_law 110 2 mX11_draw = true := by decide +kernel
theorem kL_law_913 : cvOk mL_law 111 1 mX10_told = true := by decide +kernel
theorem kL_law_922 : cvOk mL_law 114 1 mX11_told = true := by decide +kernel
theorem kL_law_931 : cvOk mL_law 115 0 mX10_digest = true := by decide +kernel
theorem kL_law_935 : cvOk mL_law 119 0 mX11_digest = true := by decide +kernel
end
section
/-! runs: several computed steps at once, fields of known cells among them -/
def refF (τ : Ty) (k q : Nat) : Value := match Nat.decEq k 38 with
  | isFalse _ => .ref q
  | isTrue _ => .ref (swp τ k q)
theorem refF_eq (τ : Ty) (k q : Nat) : refF τ k q = .ref (swp τ k q) := by
  unfold refF
  split
  · rename_i h _; unfold swp; rw [if_neg h]
  · rfl
def s2_iadd (lv : List (Option Value)) : List Value → oP
  | .int y :: .int x :: st => some (lv, .int (x + y) :: st)
  | _ => none
def s2_isub (lv : List (Option Value)) : List Value → oP
  | .int y :: .int x :: st => some (lv, .int (x - y) :: st)
  | _ => none
def s2_imul (lv : List (Option Value)) : List Value → oP
  | .int y :: .int x :: st => some (lv, .int (x * y) :: st)
  | _ => none
def s2_iand (lv : List (Option Value)) : List Value → oP
  | .int y :: .int x :: st => some (lv, .int (x &&& y) :: st)
  | _ => none
def s2_ior (lv : List (Option Value)) : List Value → oP
  | .int y :: .int x :: st => some (lv, .int (x ||| y) :: st)
  | _ => none
def s2_ixor (lv : List (Option Value)) : List Value → oP
  | .int y :: .int x :: st => some (lv, .int (x ^^^ y) :: st)
  | _ => none
def s2_ishl (lv : List (Option Value)) : List Value → oP
  | .int y :: .int x :: st => some (lv, .int (x <<< (y &&& 31)) :: st)
  | _ => none
def s2_ishr (lv : List (Option Value)) : List Value → oP
  | .int y :: .int x :: st => some (lv, .int (x >>> (y &&& 31)) :: st)
  | _ => none
def s2_iushr (lv : List (Option Value)) : List Value → oP
  | .int y :: .int x :: st => some (lv, .int ((x.toUInt32 >>> (y.toUInt32 &&& Int32.toUInt32 31)).toInt32) :: st)
  | _ => none
def s2_ladd (lv : List (Option Value)) : List Value → oP
  | .long y :: .long x :: st => some (lv, .long (x + y) :: st)
  | _ => none
def s2_lmul (lv : List (Option Value)) : List Value → oP
  | .long y :: .long x :: st => some (lv, .long (x * y) :: st)
  | _ => none
def s2_lor (lv : List (Option Value)) : List Value → oP
  | .long y :: .long x :: st => some (lv, .long (x ||| y) :: st)
  | _ => none
def s2_lushr (lv : List (Option Value)) : List Value → oP
  | .int y :: .long x :: st => some (lv, .long ((x.toUInt64 >>> (y.toInt64.toUInt64 &&& Int64.toUInt64 63)).toInt64) :: st)
  | _ => none
def s2_lshl (lv : List (Option Value)) : List Value → oP
  | .int y :: .long x :: st => some (lv, .long (x <<< (y.toInt64 &&& 63)) :: st)
  | _ => none
/-- the step without functions in its values -/
def stp2 (i : Instr) (a : Nat) (c : Int32) (cl : Int64) (lv : List (Option Value)) (st : List Value) : oP := match i with
  | .iadd => s2_iadd lv st
  | .isub => s2_isub lv st
  | .imul => s2_imul lv st
  | .iand => s2_iand lv st
  | .ior => s2_ior lv st
  | .ixor => s2_ixor lv st
  | .ishl => s2_ishl lv st
  | .ishr => s2_ishr lv st
  | .iushr => s2_iushr lv st
  | .ladd => s2_ladd lv st
  | .lmul => s2_lmul lv st
  | .lor => s2_lor lv st
  | .lushr => s2_lushr lv st
  | .lshl => s2_lshl lv st
  | i => stp i a c cl lv st
theorem s2_iadd_e (lv : List (Option Value)) (st : List Value) (a : Nat) (c : Int32) (cl : Int64) : s2_iadd lv st = stp .iadd a c cl lv st := by
  show _ = st_ii lv _ st
  unfold s2_iadd st_ii
  split
  · rfl
  · rename_i h
    split
    · exact absurd rfl (h _ _ _)
    · rfl
theorem s2_isub_e (lv : List (Option Value)) (st : List Value) (a : Nat) (c : Int32) (cl : Int64) : s2_isub lv st = stp .isub a c cl lv st := by
  show _ = st_ii lv _ st
  unfold s2_isub st_ii
  split
  · rfl
  · rename_i h
    split
    · exact absurd rfl (h _ _ _)
    · rfl
theorem s2_imul_e (lv : List (Option Value)) (st : List Value) (a : Nat) (c : Int32) (cl : Int64) : s2_imul lv st = stp .imul a c cl lv st := by
  show _ = st_ii lv _ st
  unfold s2_imul st_ii
  split
  · rfl
  · rename_i h
    split
    · exact absurd rfl (h _ _ _)
    · rfl
theorem s2_iand_e (lv : List (Option Value)) (st : List Value) (a : Nat) (c : Int32) (cl : Int64) : s2_iand lv st = stp .iand a c cl lv st := by
  show _ = st_ii lv _ st
  unfold s2_iand st_ii
  split
  · rfl
  · rename_i h
    split
    · exact absurd rfl (h _ _ _)
    · rfl
theorem s2_ior_e (lv : List (Option Value)) (st : List Value) (a : Nat) (c : Int32) (cl : Int64) : s2_ior lv st = stp .ior a c cl lv st := by
  show _ = st_ii lv _ st
  unfold s2_ior st_ii
  split
  · rfl
  · rename_i h
    split
    · exact absurd rfl (h _ _ _)
    · rfl
theorem s2_ixor_e (lv : List (Option Value)) (st : List Value) (a : Nat) (c : Int32) (cl : Int64) : s2_ixor lv st = stp .ixor a c cl lv st := by
  show _ = st_ii lv _ st
  unfold s2_ixor st_ii
  split
  · rfl
  · rename_i h
    split
    · exact absurd rfl (h _ _ _)
    · rfl
theorem s2_ishl_e (lv : List (Option Value)) (st : List Value) (a : Nat) (c : Int32) (cl : Int64) : s2_ishl lv st = stp .ishl a c cl lv st := by
  show _ = st_ii lv _ st
  unfold s2_ishl st_ii
  split
  · rfl
  · rename_i h
    split
    · exact absurd rfl (h _ _ _)
    · rfl
theorem s2_ishr_e (lv : List (Option Value)) (st : List Value) (a : Nat) (c : Int32) (cl : Int64) : s2_ishr lv st = stp .ishr a c cl lv st := by
  show _ = st_ii lv _ st
  unfold s2_ishr st_ii
  split
  · rfl
  · rename_i h
    split
    · exact absurd rfl (h _ _ _)
    · rfl
theorem s2_iushr_e (lv : List (Option Value)) (st : List Value) (a : Nat) (c : Int32) (cl : Int64) : s2_iushr lv st = stp .iushr a c cl lv st := by
  show _ = st_ii lv _ st
  unfold s2_iushr st_ii
  split
  · rfl
  · rename_i h
    split
    · exact absurd rfl (h _ _ _)
    · rfl
theorem s2_ladd_e (lv : List (Option Value)) (st : List Value) (a : Nat) (c : Int32) (cl : Int64) : s2_ladd lv st = stp .ladd a c cl lv st := by
  show _ = st_jj lv _ st
  unfold s2_ladd st_jj
  split
  · rfl
  · rename_i h
    split
    · exact absurd rfl (h _ _ _)
    · rfl
theorem s2_lmul_e (lv : List (Option Value)) (st : List Value) (a : Nat) (c : Int32) (cl : Int64) : s2_lmul lv st = stp .lmul a c cl lv st := by
  show _ = st_jj lv _ st
  unfold s2_lmul st_jj
  split
  · rfl
  · rename_i h
    split
    · exact absurd rfl (h _ _ _)
    · rfl
theorem s2_lor_e (lv : List (Option Value)) (st : List Value) (a : Nat) (c : Int32) (cl : Int64) : s2_lor lv st = stp .lor a c cl lv st := by
  show _ = st_jj lv _ st
  unfold s2_lor st_jj
  split
  · rfl
  · rename_i h
    split
    · exact absurd rfl (h _ _ _)
    · rfl
theorem s2_lushr_e (lv : List (Option Value)) (st : List Value) (a : Nat) (c : Int32) (cl : Int64) : s2_lushr lv st = stp .lushr a c cl lv st := by
  show _ = st_ij lv _ st
  unfold s2_lushr st_ij
  split
  · rfl
  · rename_i h
    split
    · exact absurd rfl (h _ _ _)
    · rfl
theorem s2_lshl_e (lv : List (Option Value)) (st : List Value) (a : Nat) (c : Int32) (cl : Int64) : s2_lshl lv st = stp .lshl a c cl lv st := by
  show _ = st_ij lv _ st
  unfold s2_lshl st_ij
  split
  · rfl
  · rename_i h
    split
    · exact absurd rfl (h _ _ _)
    · rfl
theorem stp2_eq (i : Instr) (a : Nat) (c : Int32) (cl : Int64) (lv : List (Option Value)) (st : List Value) : stp2 i a c cl lv st = stp i a c cl lv st := by
  unfold stp2
  split
  · exact s2_iadd_e lv st a c cl
  · exact s2_isub_e lv st a c cl
  · exact s2_imul_e lv st a c cl
  · exact s2_iand_e lv st a c cl
  · exact s2_ior_e lv st a c cl
  · exact s2_ixor_e lv st a c cl
  · exact s2_ishl_e lv st a c cl
  · exact s2_ishr_e lv st a c cl
  · exact s2_iushr_e lv st a c cl
  · exact s2_ladd_e lv st a c cl
  · exact s2_lmul_e lv st a c cl
  · exact s2_lor_e lv st a c cl
  · exact s2_lushr_e lv st a c cl
  · exact s2_lshl_e lv st a c cl
  · rfl
abbrev oT : Type := Option (List (Option Value) × List Value × Ty)
def st_get (τ : Ty) (a b : Nat) (lv : List (Option Value)) : List Value → oT
  | .ref k :: r => match fK k a b with
    | some none => some (lv, .int (gF τ k b) :: r, τ)
    | some (some q) => some (lv, refF τ k q :: r, τ)
    | none => none
  | _ => none
def st_put (τ : Ty) (a b : Nat) (lv : List (Option Value)) : List Value → oT
  | .int x :: .ref k :: r => match pI a b with
    | true => match fK k a b with
      | some none => some (lv, r, sF τ k b x)
      | _ => none
    | false => none
  | _ => none
def st_pure (τ : Ty) : oP → oT
  | some (lv, st) => some (lv, st, τ)
  | none => none
def stpT (i : Instr) (a b : Nat) (c : Int32) (cl : Int64) (lv : List (Option Value)) (st : List Value) (τ : Ty) : oT := match i with
  | .getfield _ => st_get τ a b lv st
  | .putfield _ => st_put τ a b lv st
  | i => st_pure τ (stp2 i a c cl lv st)
def runT (t : List (Nat × En)) : Nat → Nat → List (Option Value) → List Value → Ty → Option (Nat × List (Option Value) × List Value × Ty)
  | 0, pc, lv, st, τ => some (pc, lv, st, τ)
  | n + 1, pc, lv, st, τ => match lk t pc with
    | some (i, nx, a, b, c, cl) => match stpT i a b c cl lv st τ with
      | some (lv', st', τ') => runT t n nx lv' st' τ'
      | none => none
    | none => none
section RtRun
variable {M : MD} {X : Option (Nat × (Nat → Int32))} {pc nx a b : Nat} {c : Int32} {cl : Int64} {lv lv' : List (Option Value)} {st st' : List Value} {τ τ' : Ty} {Q : Option Value → Ty → Prop}
theorem st_pure_e {o : oP} (h : st_pure τ o = some (lv', st', τ')) : o = some (lv', st') ∧ τ' = τ := by
  unfold st_pure at h
  split at h
  · cases h; exact ⟨rfl, rfl⟩
  · cases h
theorem stpT_pure {i : Instr} (h1 : ∀ j, i ≠ .getfield j) (h2 : ∀ j, i ≠ .putfield j) : stpT i a b c cl lv st τ = st_pure τ (stp2 i a c cl lv st) := by
  unfold stpT
  split
  · exact absurd rfl (h1 _)
  · exact absurd rfl (h2 _)
  · rfl
theorem rt_stepT {i : Instr} (hq : lk (mTab M) pc = some (i, nx, a, b, c, cl)) (hs : stpT i a b c cl lv st τ = some (lv', st', τ')) (K : RT M X nx lv' st' τ' Q) : RT M X pc lv st τ Q := by
  by_cases g1 : ∃ j, i = .getfield j
  · obtain ⟨j, rfl⟩ := g1
    have hs : st_get τ a b lv st = some (lv', st', τ') := hs
    unfold st_get at hs
    split at hs
    · split at hs
      · rename_i hf; cases hs; exact rt_getI hq hf K
      · rename_i hf; cases hs; rw [refF_eq] at K; exact rt_getR hq hf K
      · cases hs
    · cases hs
  · by_cases g2 : ∃ j, i = .putfield j
    · obtain ⟨j, rfl⟩ := g2
      have hs : st_put τ a b lv st = some (lv', st', τ') := hs
      unfold st_put at hs
      split at hs
      · split at hs
        · rename_i hp
          split at hs
          · rename_i hf; cases hs; exact rt_putI hq hf hp K
          · cases hs
        · cases hs
      · cases hs
    · rw [stpT_pure (fun j h => g1 ⟨j, h⟩) (fun j h => g2 ⟨j, h⟩)] at hs
      obtain ⟨h1, e2⟩ := st_pure_e hs
      subst e2
      rw [stp2_eq] at h1
      exact rt_pure hq h1 K
theorem rt_run (n : Nat) {pc' : Nat} (h : runT (mTab M) n pc lv st τ = some (pc', lv', st', τ')) (K : RT M X pc' lv' st' τ' Q) : RT M X pc lv st τ Q := by
  induction n generalizing pc lv st τ with
  | zero => cases h; exact K
  | succ n ih =>
    unfold runT at h
    split at h
    · rename_i i nx a b c cl hq
      split at h
      · rename_i hs
        exact rt_stepT hq hs (ih h)
      · cases h
    · cases h
theorem rt_getQ {i k r : Nat} (hq : lk (mTab M) pc = some (.getfield i, nx, a, b, c, cl)) (hf : fK k a b = some (some r)) (hk : k ≠ 38) (K : RT M X nx lv (.ref r :: st) τ Q) : RT M X pc lv (.ref k :: st) τ Q := by
  refine rt_getR hq hf ?_
  unfold swp
  rw [if_neg hk]
  exact K
end RtRun
/-- the cells that are Expressions, Steps, Tables -/
def isE (k : Nat) : Prop := k = 23 ∨ k = 51 ∨ k = 54 ∨ k = 57 ∨ k = 60
def isS (k : Nat) : Prop := k = 5 ∨ k = 10 ∨ k = 15
def isT (k : Nat) : Prop := k = 39 ∨ k = 46
theorem isE_f {k : Nat} (h : isE k) : fK k 2 0 = some (some (k + 1)) ∧ fK k 2 1 = some (some (k + 2)) ∧ fK k 2 2 = some none ∧ fK k 2 3 = some none ∧ fK k 2 4 = some none ∧ aI (k + 1) = some 25 ∧ aI (k + 2) = some 8 ∧ k ≠ 38 := by
  rcases h with rfl | rfl | rfl | rfl | rfl <;> refine ⟨rfl, rfl, rfl, rfl, rfl, rfl, rfl, by decide⟩
theorem isS_f {k : Nat} (h : isS k) : fK k 7 0 = some (some (k + 1)) ∧ fK k 7 1 = some (some (k + 2)) ∧ fK k 7 2 = some (some (k + 3)) ∧ fK k 7 3 = some (some (k + 4)) ∧ fK k 7 4 = some none ∧ aI (k + 1) = some 60 ∧ aI (k + 2) = some 60 ∧ aI (k + 3) = some 60 ∧ aI (k + 4) = some 60 ∧ k ≠ 38 := by
  rcases h with rfl | rfl | rfl <;> refine ⟨rfl, rfl, rfl, rfl, rfl, rfl, rfl, rfl, rfl, by decide⟩
theorem isT_f {k : Nat} (h : isT k) : fK k 8 0 = some (some (k + 1)) ∧ fK k 8 1 = some (some (k + 2)) ∧ fK k 8 2 = some none ∧ fK k 8 3 = some none ∧ aL (k + 1) = some 400 ∧ aI (k + 2) = some 1024 ∧ k ≠ 38 := by
  rcases h with rfl | rfl <;> refine ⟨rfl, rfl, rfl, rfl, rfl, rfl, by decide⟩
end
section
/-! bits of an int: the first rows (to b_sshr) are the family of kit/laws/BITS -/
def bt (x : Int32) (i : Nat) : Bool := x.toBitVec.getLsbD i
theorem b_ext {x y : Int32} (h : ∀ i, i < 32 → bt x i = bt y i) : x = y := Int32.toBitVec_inj.mp (BitVec.eq_of_getLsbD_eq (fun i hi => h i hi))
theorem b_or (x y : Int32) (i : Nat) : bt (x ||| y) i = (bt x i || bt y i) := by unfold bt; rw [Int32.toBitVec_or, BitVec.getLsbD_or]
theorem b_and (x y : Int32) (i : Nat) : bt (x &&& y) i = (bt x i && bt y i) := by unfold bt; rw [Int32.toBitVec_and, BitVec.getLsbD_and]
theorem b_xor (x y : Int32) (i : Nat) : bt (x ^^^ y) i = (bt x i ^^ bt y i) := by unfold bt; rw [Int32.toBitVec_xor, BitVec.getLsbD_xor]
theorem b_big {x : Int32} {i : Nat} (h : 32 ≤ i) : bt x i = false := BitVec.getLsbD_of_ge _ _ h
theorem b_255 (i : Nat) : bt 255 i = decide (i < 8) := by
  rcases Nat.lt_or_ge i 32 with h | h
  · exact (by decide +kernel : ∀ i, i < 32 → bt 255 i = decide (i < 8)) i h
  · rw [b_big h, decide_eq_false (by omega)]
theorem b_65535 (i : Nat) : bt 65535 i = decide (i < 16) := by
  rcases Nat.lt_or_ge i 32 with h | h
  · exact (by decide +kernel : ∀ i, i < 32 → bt 65535 i = decide (i < 16)) i h
  · rw [b_big h, decide_eq_false (by omega)]
theorem b_m1 : ∀ i, i < 32 → bt (-1) i = true := by decide +kernel
theorem b_0 (i : Nat) : bt 0 i = false := BitVec.getLsbD_zero
theorem s_l : ∀ n, n < 32 → ((nI n &&& 31).toBitVec.smod 32).toNat = n := by decide +kernel
theorem s_u : ∀ n, n < 32 → (((nI n).toUInt32 &&& Int32.toUInt32 31).toBitVec % 32).toNat = n := by decide +kernel
theorem b_shl (n : Nat) (hn : n < 32) (x : Int32) {i : Nat} (hi : i < 32) : bt (x <<< (nI n &&& 31)) i = (decide (n ≤ i) && bt x (i - n)) := by
  unfold bt
  rw [Int32.toBitVec_shiftLeft]
  show (x.toBitVec <<< ((nI n &&& 31).toBitVec.smod 32).toNat).getLsbD i = _
  rw [s_l n hn, BitVec.getLsbD_shiftLeft]
  rcases Nat.lt_or_ge i n with h | h
  · simp [h, Nat.not_le.mpr h]
  · simp [hi, h, Nat.not_lt.mpr h]
theorem b_ushr (n : Nat) (hn : n < 32) (x : Int32) (i : Nat) : bt ((x.toUInt32 >>> ((nI n).toUInt32 &&& Int32.toUInt32 31)).toInt32) i = bt x (n + i) := by
  show (x.toUInt32 >>> ((nI n).toUInt32 &&& Int32.toUInt32 31)).toBitVec.getLsbD i = x.toUInt32.toBitVec.getLsbD (n + i)
  rw [UInt32.toBitVec_shiftRight]
  show (x.toUInt32.toBitVec >>> (((nI n).toUInt32 &&& Int32.toUInt32 31).toBitVec % 32).toNat).getLsbD i = _
  rw [s_u n hn, BitVec.getLsbD_ushiftRight]
theorem b_sshr (n : Nat) (hn : n < 32) (x : Int32) {i : Nat} (hi : i < 32) : bt (x >>> (nI n &&& 31)) i = if n + i < 32 then bt x (n + i) else bt x 31 := by
  unfold bt
  rw [Int32.toBitVec_shiftRight]
  show (x.toBitVec.sshiftRight ((nI n &&& 31).toBitVec.smod 32).toNat).getLsbD i = _
  rw [s_l n hn, BitVec.getLsbD_sshiftRight, BitVec.msb_eq_getLsbD_last]
  simp [hi]
theorem b_one {i : Nat} (hi : i < 32) : bt 1 i = decide (i = 0) := (by decide +kernel : ∀ i, i < 32 → bt 1 i = decide (i = 0)) i hi
theorem b_m2 {i : Nat} (hi : i < 32) : bt (-2) i = decide (i ≠ 0) := (by decide +kernel : ∀ i, i < 32 → bt (-2) i = decide (i ≠ 0)) i hi
theorem b_bit {p i : Nat} (hp : p < 32) (hi : i < 32) : bt (1 <<< (nI p &&& 31)) i = decide (i = p) := by
  rw [b_shl p hp 1 hi]
  by_cases h : p ≤ i
  · rw [b_one (by omega)]
    by_cases h2 : i = p
    · subst h2; simp
    · have : ¬ i - p = 0 := by omega
      simp [h2, this]
  · have : ¬ i = p := by omega
    simp [h, this]
theorem b_zero {x : Int32} : x = 0 ↔ ∀ i, i < 32 → bt x i = false := ⟨fun h i _ => by rw [h]; exact b_0 i, fun h => b_ext (fun i hi => by rw [h i hi, b_0])⟩
theorem b_and1 {x : Int32} : (x &&& 1) = 0 ↔ bt x 0 = false := by
  rw [b_zero]
  constructor
  · intro h
    have := h 0 (by decide)
    rw [b_and, b_one (by decide)] at this
    simpa using this
  · intro h i hi
    rw [b_and, b_one hi]
    by_cases h0 : i = 0
    · subst h0; simp [h]
    · simp [h0]
theorem b_test {s : Int32} {p : Nat} (hp : p < 32) : ((s >>> (nI p &&& 31)) &&& 1) = 0 ↔ bt s p = false := by
  rw [b_and1, b_sshr p hp s (by decide), if_pos (by omega), Nat.add_zero]
theorem bt_t {s : Int32} {p : Nat} (hp : p < 32) (h : ¬ ((s >>> (nI p &&& 31)) &&& 1) = 0) : bt s p = true := by
  cases hb : bt s p with
  | true => rfl
  | false => exact absurd ((b_test hp).mpr hb) h
theorem bt_f {s : Int32} {p : Nat} (hp : p < 32) (h : ((s >>> (nI p &&& 31)) &&& 1) = 0) : bt s p = false := (b_test hp).mp h
theorem b_t1 {s : Int32} {p : Nat} (hp : p < 32) : (s >>> (nI p &&& 31)) &&& 1 = if bt s p = true then 1 else 0 := by
  apply b_ext
  intro i hi
  rw [b_and, b_one hi, b_sshr p hp s hi]
  by_cases h0 : i = 0
  · subst h0
    rw [if_pos (by omega), Nat.add_zero]
    cases bt s p <;> simp [b_0, b_one]
  · cases bt s p <;> simp [h0, b_0, b_one hi]
theorem b_not {x : Int32} {i : Nat} (hi : i < 32) : bt (x ^^^ -1) i = !bt x i := by rw [b_xor, b_m1 i hi]; simp
/-- all that the rows of a set's members hold, up to a place -/
def orL (f : Nat → Int32) (s : Int32) : Nat → Int32
  | 0 => 0
  | p + 1 => if bt s p = true then orL f s p ||| f p else orL f s p
theorem orL_bt (f : Nat → Int32) (s : Int32) (n i : Nat) : bt (orL f s n) i = (List.range n).any (fun p => bt s p && bt (f p) i) := by
  induction n with
  | zero => simp [orL, b_0]
  | succ n ih =>
    rw [List.range_succ, List.any_append]
    unfold orL
    cases hb : bt s n with
    | true => simp [b_or, ih, hb]
    | false => simp [ih, hb]
end
section
/-! Expression: finishes, behind, aheadOf, after -/
theorem behind_spec {k n : Nat} {set : Int32} {τ : Ty} {Q : Option Value → Ty → Prop} (hk : isE k) (hn : gF τ k 3 = nI n) (hn24 : n ≤ 24) (h : Q (some (.int (orL (gI τ (k + 1)) set (n + 1)))) τ) : RT mX2_behind none 0 [some (.ref k), some (.int set), none, none] [] τ Q := by
  obtain ⟨f0, f1, f2, f3, f4, a0, a1, h38⟩ := isE_f hk
  have loop : ∀ d p, p + d = n + 1 → RT mX2_behind none 4 [some (.ref k), some (.int set), some (.int (orL (gI τ (k + 1)) set p)), some (.int (nI p))] [] τ Q := by
    intro d
    induction d with
    | zero =>
      intro p hp
      refine rt_run 2 rfl ?_
      refine rt_getI rfl f3 ?_
      refine rt_ic_gt rfl (fun _ => ?_) (fun hc => ?_)
      · refine rt_run 1 rfl ?_
        exact rt_iret rfl rfl (by rw [show p = n + 1 by omega]; exact h)
      · exact absurd (by rw [hn]; exact nI_lt (by omega) (by omega)) hc
    | succ d ih =>
      intro p hp
      refine rt_run 2 rfl ?_
      refine rt_getI rfl f3 ?_
      refine rt_ic_gt rfl (fun hc => ?_) (fun _ => ?_)
      · exact absurd hc (by rw [hn]; exact nI_nlt (by omega) (by omega))
      · refine rt_run 5 rfl ?_
        refine rt_if_eq rfl (fun hc => ?_) (fun hc => ?_)
        · refine rt_run 2 rfl ?_
          have e : orL (gI τ (k + 1)) set (p + 1) = orL (gI τ (k + 1)) set p := by
            simp only [orL, bt_f (by omega) hc]; simp
          have := ih (p + 1) (by omega)
          rw [e, nI_succ] at this
          exact this
        · refine rt_run 2 rfl ?_
          refine rt_getQ rfl f0 h38 ?_
          refine rt_run 1 rfl ?_
          refine rt_iald rfl a0 (vp_in_nI (by omega) (by decide)) ?_
          refine rt_run 4 rfl ?_
          have e : orL (gI τ (k + 1)) set (p + 1) = orL (gI τ (k + 1)) set p ||| gI τ (k + 1) p := by
            simp only [orL, bt_t (by omega) hc]; simp
          have := ih (p + 1) (by omega)
          rw [e, nI_succ] at this
          rw [nI_clamp (by omega)]
          exact this
  refine rt_run 4 rfl ?_
  exact loop (n + 1) 0 (by omega)
end
section
/-! rows with places as natural numbers; what a store says of the typed store; fill, bitCount, min, max -/
theorem shpLe : (shp.all fun s => match s with
    | .inl (_, n) => decide (n ≤ 4000)
    | _ => true) = true := by decide +kernel
theorem aI_le {k n : Nat} (h : aI k = some n) : n < 2 ^ 31 := by
  have h1 := aI_e h
  rw [ng_eq] at h1
  have h2 := List.all_eq_true.mp shpLe _ (List.mem_of_getElem? h1)
  have h3 : n ≤ 4000 := of_decide_eq_true h2
  omega
theorem aL_le {k n : Nat} (h : aL k = some n) : n < 2 ^ 31 := by
  have h1 := aL_e h
  rw [ng_eq] at h1
  have h2 := List.all_eq_true.mp shpLe _ (List.mem_of_getElem? h1)
  have h3 : n ≤ 4000 := of_decide_eq_true h2
  omega
section RtNat
variable {M : MD} {X : Option (Nat × (Nat → Int32))} {pc nx a b : Nat} {c : Int32} {cl : Int64} {lv lv' : List (Option Value)} {st st' : List Value} {τ τ' : Ty} {Q : Option Value → Ty → Prop}
theorem rt_ld {k n : Nat} {x : Int32} (j : Nat) (hq : lk (mTab M) pc = some (.iaload, nx, a, b, c, cl)) (hf : aI k = some n) (hj : j < n) (K : RT M X nx lv (.int (gI τ k j) :: st) τ Q) (hx : x = nI j := by first | rfl | (simp only [← nI_add, ← pk_mul]; rfl)) : RT M X pc lv (.int x :: .ref k :: st) τ Q := by
  subst hx
  have hn := aI_le hf
  refine rt_iald hq hf (vp_in_nI hj hn) ?_
  rw [nI_clamp (by omega)]
  exact K
theorem rt_st {k n : Nat} {x y : Int32} (j : Nat) (hq : lk (mTab M) pc = some (.iastore, nx, a, b, c, cl)) (hf : aI k = some n) (hj : j < n) (K : RT M X nx lv st (sI τ k j y) Q) (hx : x = nI j := by first | rfl | (simp only [← nI_add, ← pk_mul]; rfl)) : RT M X pc lv (.int y :: .int x :: .ref k :: st) τ Q := by
  subst hx
  have hn := aI_le hf
  refine rt_iast hq hf (vp_in_nI hj hn) ?_
  rw [nI_clamp (by omega)]
  exact K
theorem rt_ldL {k n : Nat} {x : Int32} (j : Nat) (hq : lk (mTab M) pc = some (.laload, nx, a, b, c, cl)) (hf : aL k = some n) (hj : j < n) (K : RT M X nx lv (.long (gL τ k j) :: st) τ Q) (hx : x = nI j := by first | rfl | (simp only [← nI_add, ← pk_mul]; rfl)) : RT M X pc lv (.int x :: .ref k :: st) τ Q := by
  subst hx
  have hn := aL_le hf
  refine rt_lald hq hf (vp_in_nI hj hn) ?_
  rw [nI_clamp (by omega)]
  exact K
theorem rt_stL {k n : Nat} {x : Int32} {y : Int64} (j : Nat) (hq : lk (mTab M) pc = some (.lastore, nx, a, b, c, cl)) (hf : aL k = some n) (hj : j < n) (K : RT M X nx lv st (sL τ k j y) Q) (hx : x = nI j := by first | rfl | (simp only [← nI_add, ← pk_mul]; rfl)) : RT M X pc lv (.long y :: .int x :: .ref k :: st) τ Q := by
  subst hx
  have hn := aL_le hf
  refine rt_last hq hf (vp_in_nI hj hn) ?_
  rw [nI_clamp (by omega)]
  exact K
theorem rt_ge {x y : Int32} {n : Int} (i j : Nat) (hq : lk (mTab M) pc = some (.if_icmp .ge n, nx, a, b, c, cl)) (hi : i < 2 ^ 31) (hj : j < 2 ^ 31) (kt : j ≤ i → RT M X a lv st τ Q) (kf : i < j → RT M X nx lv st τ Q) (hx : x = nI i := by first | rfl | assumption | (simp only [← nI_add, ← pk_mul]; rfl)) (hy : y = nI j := by first | rfl | assumption | (simp only [← nI_add, ← pk_mul]; rfl)) : RT M X pc lv (.int y :: .int x :: st) τ Q := by
  subst hx; subst hy
  exact rt_ic_ge hq (fun h => kt ((nI_leI hj hi).mp h)) (fun h => kf (by have := mt (nI_leI hj hi).mpr h; omega))
theorem rt_lt {x y : Int32} {n : Int} (i j : Nat) (hq : lk (mTab M) pc = some (.if_icmp .lt n, nx, a, b, c, cl)) (hi : i < 2 ^ 31) (hj : j < 2 ^ 31) (kt : i < j → RT M X a lv st τ Q) (kf : j ≤ i → RT M X nx lv st τ Q) (hx : x = nI i := by first | rfl | assumption | (simp only [← nI_add, ← pk_mul]; rfl)) (hy : y = nI j := by first | rfl | assumption | (simp only [← nI_add, ← pk_mul]; rfl)) : RT M X pc lv (.int y :: .int x :: st) τ Q := by
  subst hx; subst hy
  exact rt_ic_lt hq (fun h => kt ((nI_ltI hi hj).mp h)) (fun h => kf (by have := mt (nI_ltI hi hj).mpr h; omega))
theorem rt_gt {x y : Int32} {n : Int} (i j : Nat) (hq : lk (mTab M) pc = some (.if_icmp .gt n, nx, a, b, c, cl)) (hi : i < 2 ^ 31) (hj : j < 2 ^ 31) (kt : j < i → RT M X a lv st τ Q) (kf : i ≤ j → RT M X nx lv st τ Q) (hx : x = nI i := by first | rfl | assumption | (simp only [← nI_add, ← pk_mul]; rfl)) (hy : y = nI j := by first | rfl | assumption | (simp only [← nI_add, ← pk_mul]; rfl)) : RT M X pc lv (.int y :: .int x :: st) τ Q := by
  subst hx; subst hy
  exact rt_ic_gt hq (fun h => kt ((nI_ltI hj hi).mp h)) (fun h => kf (by have := mt (nI_ltI hj hi).mpr h; omega))
theorem rt_le {x y : Int32} {n : Int} (i j : Nat) (hq : lk (mTab M) pc = some (.if_icmp .le n, nx, a, b, c, cl)) (hi : i < 2 ^ 31) (hj : j < 2 ^ 31) (kt : i ≤ j → RT M X a lv st τ Q) (kf : j < i → RT M X nx lv st τ Q) (hx : x = nI i := by first | rfl | assumption | (simp only [← nI_add, ← pk_mul]; rfl)) (hy : y = nI j := by first | rfl | assumption | (simp only [← nI_add, ← pk_mul]; rfl)) : RT M X pc lv (.int y :: .int x :: st) τ Q := by
  subst hx; subst hy
  exact rt_ic_le hq (fun h => kt ((nI_leI hi hj).mp h)) (fun h => kf (by have := mt (nI_leI hi hj).mpr h; omega))
theorem rt_eq {x y : Int32} {n : Int} (i j : Nat) (hq : lk (mTab M) pc = some (.if_icmp .eq n, nx, a, b, c, cl)) (hi : i < 2 ^ 31) (hj : j < 2 ^ 31) (kt : i = j → RT M X a lv st τ Q) (kf : i ≠ j → RT M X nx lv st τ Q) (hx : x = nI i := by first | rfl | assumption | (simp only [← nI_add, ← pk_mul]; rfl)) (hy : y = nI j := by first | rfl | assumption | (simp only [← nI_add, ← pk_mul]; rfl)) : RT M X pc lv (.int y :: .int x :: st) τ Q := by
  subst hx; subst hy
  exact rt_ic_eq hq (fun h => kt ((nI_eq hi hj).mp h)) (fun h => kf (mt (nI_eq hi hj).mpr h))
theorem rt_ne {x y : Int32} {n : Int} (i j : Nat) (hq : lk (mTab M) pc = some (.if_icmp .ne n, nx, a, b, c, cl)) (hi : i < 2 ^ 31) (hj : j < 2 ^ 31) (kt : i ≠ j → RT M X a lv st τ Q) (kf : i = j → RT M X nx lv st τ Q) (hx : x = nI i := by first | rfl | assumption | (simp only [← nI_add, ← pk_mul]; rfl)) (hy : y = nI j := by first | rfl | assumption | (simp only [← nI_add, ← pk_mul]; rfl)) : RT M X pc lv (.int y :: .int x :: st) τ Q := by
  subst hx; subst hy
  exact rt_ic_ne hq (fun h => kt (mt (nI_eq hi hj).mpr h)) (fun h => kf ((nI_eq hi hj).mp h))
theorem mmW : (decide (Jvm.Cond.static Lib.Math.min.name ∈ lw_tbl) && decide (Jvm.Cond.static Lib.Math.max.name ∈ lw_tbl) && decide (Jvm.Cond.initialized "java/lang/Math" ∈ lw_tbl) && decide (Jvm.Cond.code Lib.Math.min.name Lib.Math.min.code 2 (some .int) ∈ lw_tbl) && decide (Jvm.Cond.code Lib.Math.max.name Lib.Math.max.code 2 (some .int) ∈ lw_tbl)) = true := by decide +kernel
theorem rt_min {i : Nat} {x y : Int32} (hq : lk (mTab M) pc = some (.invokestatic i, nx, a, b, c, cl)) (hw : Jvm.Cond.methodLink (mY M).cls i Lib.Math.min.name ∈ lw_tbl) (hf : 1 ≤ (mRm M).frames) (hl : catSum st + 13 ≤ (mRm M).locals) (K : RT M X nx lv (.int (if y < x then y else x) :: st) τ Q) : RT M X pc lv (.int y :: .int x :: st) τ Q := by
  intro bc bs p l e s m args below meth c H locs cells slots Z b0 sz cA D ls h1 h2 h3 h4 h5 h6 h7 h8 hE
  have hk := mOk_at h1 hq
  simp only [enOk, iLen, Bool.and_true, Bool.and_eq_true] at hk
  obtain ⟨hd, hn9⟩ := hk
  have hd := of_decide_eq_true hd
  have hn9 := of_decide_eq_true hn9
  subst hn9
  have cw := mmW
  simp only [Bool.and_eq_true, decide_eq_true_eq] at cw
  exact va_mmin h2.1 h2.2.1 (by rw [h2.2.2.2.1]; exact h5.1.symm) h2.2.2.2.2.1 (h2.w hw rfl) (h2.w cw.1.1.1.1 rfl) (h2.w cw.1.1.2 rfl) (h2.w cw.1.2 rfl) hf (by rw [catSum_x]; exact hl) (by omega) (by omega) hd (K bc bs p l e s m args below meth c H locs cells slots Z b0 sz cA D ls h1 h2 h3 h4 h5 h6 h7 h8 hE)
theorem rt_max {i : Nat} {x y : Int32} (hq : lk (mTab M) pc = some (.invokestatic i, nx, a, b, c, cl)) (hw : Jvm.Cond.methodLink (mY M).cls i Lib.Math.max.name ∈ lw_tbl) (hf : 1 ≤ (mRm M).frames) (hl : catSum st + 13 ≤ (mRm M).locals) (K : RT M X nx lv (.int (if x < y then y else x) :: st) τ Q) : RT M X pc lv (.int y :: .int x :: st) τ Q := by
  intro bc bs p l e s m args below meth c H locs cells slots Z b0 sz cA D ls h1 h2 h3 h4 h5 h6 h7 h8 hE
  have hk := mOk_at h1 hq
  simp only [enOk, iLen, Bool.and_true, Bool.and_eq_true] at hk
  obtain ⟨hd, hn9⟩ := hk
  have hd := of_decide_eq_true hd
  have hn9 := of_decide_eq_true hn9
  subst hn9
  have cw := mmW
  simp only [Bool.and_eq_true, decide_eq_true_eq] at cw
  exact va_mmax h2.1 h2.2.1 (by rw [h2.2.2.2.1]; exact h5.1.symm) h2.2.2.2.2.1 (h2.w hw rfl) (h2.w cw.1.1.1.2 rfl) (h2.w cw.1.1.2 rfl) (h2.w cw.2 rfl) hf (by rw [catSum_x]; exact hl) (by omega) (by omega) hd (K bc bs p l e s m args below meth c H locs cells slots Z b0 sz cA D ls h1 h2 h3 h4 h5 h6 h7 h8 hE)
end RtNat
/-! what the typed store holds behind a store -/
theorem gI_sA (τ : Ty) (k : Nat) (f : Nat → Int32) (k' : Nat) : gI (sA τ k f) k' = if k' = k then f else gI τ k' := rfl
theorem gI_sI (τ : Ty) (k j : Nat) (x : Int32) (k' : Nat) : gI (sI τ k j x) k' = if k' = k then upd (gI τ k) j x else gI τ k' := rfl
theorem gI_sL (τ : Ty) (k j : Nat) (x : Int64) : gI (sL τ k j x) = gI τ := rfl
theorem gI_sF (τ : Ty) (k j : Nat) (x : Int32) : gI (sF τ k j x) = gI τ := rfl
theorem gL_sA (τ : Ty) (k : Nat) (f : Nat → Int32) : gL (sA τ k f) = gL τ := rfl
theorem gL_sI (τ : Ty) (k j : Nat) (x : Int32) : gL (sI τ k j x) = gL τ := rfl
theorem gL_sL (τ : Ty) (k j : Nat) (x : Int64) (k' : Nat) : gL (sL τ k j x) k' = if k' = k then vp_updL (gL τ k) j x else gL τ k' := rfl
theorem gL_sF (τ : Ty) (k j : Nat) (x : Int32) : gL (sF τ k j x) = gL τ := rfl
theorem gF_sA (τ : Ty) (k : Nat) (f : Nat → Int32) : gF (sA τ k f) = gF τ := rfl
theorem gF_sI (τ : Ty) (k j : Nat) (x : Int32) : gF (sI τ k j x) = gF τ := rfl
theorem gF_sL (τ : Ty) (k j : Nat) (x : Int64) : gF (sL τ k j x) = gF τ := rfl
theorem gF_sF (τ : Ty) (k j : Nat) (x : Int32) (k' : Nat) : gF (sF τ k j x) k' = if k' = k then upd (gF τ k) j x else gF τ k' := rfl
/-- only the cells of a list have changed -/
def Off (ks : List Nat) (τ τ' : Ty) : Prop := (∀ k, k ∉ ks → gI τ' k = gI τ k ∧ gL τ' k = gL τ k ∧ gF τ' k = gF τ k) ∧ gW τ' = gW τ
theorem Off.rf (ks : List Nat) (τ : Ty) : Off ks τ τ := ⟨fun _ _ => ⟨rfl, rfl, rfl⟩, rfl⟩
theorem Off.tr {ks : List Nat} {τ τ' τ'' : Ty} (h : Off ks τ τ') (h' : Off ks τ' τ'') : Off ks τ τ'' :=
  ⟨fun k hk => ⟨(h'.1 k hk).1.trans (h.1 k hk).1, (h'.1 k hk).2.1.trans (h.1 k hk).2.1, (h'.1 k hk).2.2.trans (h.1 k hk).2.2⟩, h'.2.trans h.2⟩
theorem Off.up {ks ks' : List Nat} {τ τ' : Ty} (h : Off ks τ τ') (hs : ∀ k ∈ ks, k ∈ ks') : Off ks' τ τ' := ⟨fun k hk => h.1 k (fun hh => hk (hs k hh)), h.2⟩
theorem Off.sA {ks : List Nat} {τ τ' : Ty} {k : Nat} (h : Off ks τ τ') (hk : k ∈ ks) (f : Nat → Int32) : Off ks τ (sA τ' k f) := by
  refine ⟨fun k' hk' => ?_, h.2⟩
  have hne : k' ≠ k := fun e => hk' (e ▸ hk)
  rw [gI_sA, if_neg hne]
  exact h.1 k' hk'
theorem Off.sI {ks : List Nat} {τ τ' : Ty} {k : Nat} (h : Off ks τ τ') (hk : k ∈ ks) (j : Nat) (x : Int32) : Off ks τ (sI τ' k j x) := h.sA hk _
theorem Off.sL {ks : List Nat} {τ τ' : Ty} {k : Nat} (h : Off ks τ τ') (hk : k ∈ ks) (j : Nat) (x : Int64) : Off ks τ (sL τ' k j x) := by
  refine ⟨fun k' hk' => ?_, h.2⟩
  have hne : k' ≠ k := fun e => hk' (e ▸ hk)
  rw [gL_sL, if_neg hne]
  exact h.1 k' hk'
theorem Off.sF {ks : List Nat} {τ τ' : Ty} {k : Nat} (h : Off ks τ τ') (hk : k ∈ ks) (j : Nat) (x : Int32) : Off ks τ (sF τ' k j x) := by
  refine ⟨fun k' hk' => ?_, h.2⟩
  have hne : k' ≠ k := fun e => hk' (e ▸ hk)
  rw [gF_sF, if_neg hne]
  exact h.1 k' hk'
theorem sI_sA (τ : Ty) (k : Nat) (f : Nat → Int32) (j : Nat) (x : Int32) : sI (sA τ k f) k j x = sA τ k (upd f j x) := by
  unfold sI
  rw [gI_sA, if_pos rfl]
  simp only [sA]
  congr 1
  funext k'
  by_cases h : k' = k <;> simp [h]
theorem sA_self (τ : Ty) (k : Nat) : sA τ k (gI τ k) = τ := by
  unfold sA gI
  have : (fun k' => if k' = k then τ.1 k else τ.1 k') = τ.1 := by
    funext k'
    by_cases h : k' = k
    · rw [if_pos h, h]
    · rw [if_neg h]
  rw [this]
/-- Arrays.fill -/
theorem fill_spec {k n : Nat} {v : Int32} {τ : Ty} {Q : Option Value → Ty → Prop} (hk : aI k = some n) (h : ∀ f : Nat → Int32, (∀ j, j < n → f j = v) → Q none (sA τ k f)) : RT mJ7_fill_53178 none 0 [some (.ref k), some (.int v), none, none] [] τ Q := by
  have hn := aI_le hk
  have loop : ∀ d i (f : Nat → Int32), i + d = n → (∀ j, j < i → f j = v) → RT mJ7_fill_53178 none 5 [some (.ref k), some (.int v), some (.int (nI i)), some (.int (nI n))] [] (sA τ k f) Q := by
    intro d
    induction d with
    | zero =>
      intro i f hi hf
      refine rt_run 2 rfl ?_
      refine rt_ge i n rfl (by omega) (by omega) (fun _ => ?_) (fun _ => by omega)
      exact rt_vret rfl rfl (h f (fun j hj => hf j (by omega)))
    | succ d ih =>
      intro i f hi hf
      refine rt_run 2 rfl ?_
      refine rt_ge i n rfl (by omega) (by omega) (fun _ => by omega) (fun _ => ?_)
      refine rt_run 3 rfl ?_
      refine rt_st i rfl hk (by omega) ?_
      rw [sI_sA]
      refine rt_run 2 rfl ?_
      have := ih (i + 1) (upd f i v) (by omega) (fun j hj => by
        by_cases hji : j = i
        · rw [hji]; exact pk_us
        · rw [pk_un hji]; exact hf j (by omega))
      rw [nI_succ] at this
      exact this
  refine rt_run 3 rfl ?_
  refine rt_alen rfl hk ?_
  refine rt_run 1 rfl ?_
  have := loop n 0 (gI τ k) (by omega) (fun j hj => by omega)
  rw [sA_self] at this
  exact this
def ush (x y : Int32) : Int32 := (x.toUInt32 >>> (y.toUInt32 &&& Int32.toUInt32 31)).toInt32
def bc1 (x : Int32) : Int32 := x - (ush x 1 &&& 1431655765)
def bc2 (x : Int32) : Int32 := (x &&& 858993459) + (ush x 2 &&& 858993459)
def bc3 (x : Int32) : Int32 := (x + ush x 4) &&& 252645135
def bc4 (x : Int32) : Int32 := x + ush x 8
def bc5 (x : Int32) : Int32 := x + ush x 16
/-- Integer.bitCount, as its code counts -/
def bcI (x : Int32) : Int32 := bc5 (bc4 (bc3 (bc2 (bc1 x)))) &&& 63
theorem bitCount_spec {x : Int32} {τ : Ty} {Q : Option Value → Ty → Prop} (h : Q (some (.int (bcI x))) τ) : RT mJ6_bitCount_0f7a4 none 0 [some (.int x)] [] τ Q := by
  refine rt_run 8 (lv' := [some (.int (bc1 x))]) rfl ?_
  refine rt_run 10 (lv' := [some (.int (bc2 (bc1 x)))]) rfl ?_
  refine rt_run 8 (lv' := [some (.int (bc3 (bc2 (bc1 x))))]) rfl ?_
  refine rt_run 6 (lv' := [some (.int (bc4 (bc3 (bc2 (bc1 x)))))]) rfl ?_
  refine rt_run 6 (lv' := [some (.int (bc5 (bc4 (bc3 (bc2 (bc1 x))))))]) rfl ?_
  refine rt_run 3 rfl ?_
  exact rt_iret rfl rfl h
end
section
/-! calls over the typed store, their side rows by computing -/
section RtCalls
variable {M : MD} {X : Option (Nat × (Nat → Int32))} {pc nx b : Nat} {c : Int32} {cl : Int64} {lv : List (Option Value)} {st : List Value} {τ : Ty} {Q : Option Value → Ty → Prop}
theorem rt_cV {i n k ci : Nat} (Mc : MD) (hc : cvOk M i n Mc = true) (hok : mOk Mc = true) (hf : (fK k ci 0).isSome = true) (hq : lk (mTab M) pc = some (.invokevirtual i, nx, n, b, c, cl)) (hk : ng st n = some (.ref k)) (hci : (vwCl[ci]?.map (·.1)) = some (mY Mc).cls)
    (h5 : (Nat.ble (catSum (st.drop (n + 1))) 8 && Nat.ble (lvA (.ref k :: (st.take n).reverse)).length (mML Mc) && Nat.beq (mRm Mc).cells 0 && Nat.beq (mRm Mc).slots 0) = true)
    (K : RT Mc none 0 (lvArgs (mML Mc) (.ref k :: (st.take n).reverse)) [] τ (fun v τ' => RT M X nx lv (v.toList ++ st.drop (n + 1)) τ' Q)) : RT M X pc lv st τ Q := by
  simp only [Bool.and_eq_true] at h5
  exact rt_callV (ci := ci) Mc hq hc hk (fun h => by rw [h] at hf; cases hf) hci (Nat.le_of_ble_eq_true h5.1.1.1) hok (Nat.le_of_ble_eq_true h5.1.1.2) ⟨Nat.eq_of_beq_eq_true h5.1.2, Nat.eq_of_beq_eq_true h5.2⟩ K
theorem rt_cS {i n : Nat} (Mc : MD) (hc : csOk M i n Mc = true) (hok : mOk Mc = true) (hq : lk (mTab M) pc = some (.invokestatic i, nx, n, b, c, cl))
    (h5 : (Nat.ble n st.length && Nat.ble (catSum (st.drop n)) 8 && Nat.ble (lvA (st.take n).reverse).length (mML Mc) && Nat.beq (mRm Mc).cells 0 && Nat.beq (mRm Mc).slots 0) = true)
    (K : RT Mc none 0 (lvArgs (mML Mc) (st.take n).reverse) [] τ (fun v τ' => RT M X nx lv (v.toList ++ st.drop n) τ' Q)) : RT M X pc lv st τ Q := by
  simp only [Bool.and_eq_true] at h5
  exact rt_callS Mc hq hc (Nat.le_of_ble_eq_true h5.1.1.1.1) (Nat.le_of_ble_eq_true h5.1.1.1.2) hok (Nat.le_of_ble_eq_true h5.1.1.2) ⟨Nat.eq_of_beq_eq_true h5.1.2, Nat.eq_of_beq_eq_true h5.2⟩ K
end RtCalls
theorem isE_s {k : Nat} (h : isE k) : (fK k 2 0).isSome = true := by rw [(isE_f h).1]; rfl
theorem isS_s {k : Nat} (h : isS k) : (fK k 7 0).isSome = true := by rw [(isS_f h).1]; rfl
theorem isT_s {k : Nat} (h : isT k) : (fK k 8 0).isSome = true := by rw [(isT_f h).1]; rfl
end
section
/-! Expression: the rest of its methods -/
theorem finishes_spec {k : Nat} {set : Int32} {τ : Ty} {Q : Option Value → Ty → Prop} (hk : isE k) (h : Q (some (.int (if set &&& gF τ k 2 = 0 then 0 else 1))) τ) : RT mX2_finishes none 0 [some (.ref k), some (.int set)] [] τ Q := by
  obtain ⟨f0, f1, f2, f3, f4, a0, a1, h38⟩ := isE_f hk
  refine rt_run 2 rfl ?_
  refine rt_getI rfl f2 ?_
  refine rt_run 1 rfl ?_
  refine rt_if_eq rfl (fun hc => ?_) (fun hc => ?_)
  · refine rt_run 1 rfl ?_
    rw [if_pos hc] at h
    exact rt_zret rfl rfl (Or.inl rfl) h
  · refine rt_run 2 rfl ?_
    rw [if_neg hc] at h
    exact rt_zret rfl rfl (Or.inr rfl) h
/-- the places whose row meets a set -/
def ahL (f : Nat → Int32) (s : Int32) : Nat → Int32
  | 0 => 0
  | p + 1 => if f p &&& s = 0 then ahL f s p else ahL f s p ||| (1 <<< (nI p &&& 31))
theorem aheadOf_spec {k n : Nat} {set : Int32} {τ : Ty} {Q : Option Value → Ty → Prop} (hk : isE k) (hn : gF τ k 3 = nI n) (hn24 : n ≤ 24) (h : Q (some (.int (ahL (gI τ (k + 1)) set (n + 1)))) τ) : RT mX2_aheadOf none 0 [some (.ref k), some (.int set), none, none] [] τ Q := by
  obtain ⟨f0, f1, f2, f3, f4, a0, a1, h38⟩ := isE_f hk
  have loop : ∀ d p, p + d = n + 1 → RT mX2_aheadOf none 4 [some (.ref k), some (.int set), some (.int (ahL (gI τ (k + 1)) set p)), some (.int (nI p))] [] τ Q := by
    intro d
    induction d with
    | zero =>
      intro p hp
      refine rt_run 2 rfl ?_
      refine rt_getI rfl f3 ?_
      refine rt_gt p n rfl (by omega) (by omega) (fun _ => ?_) (fun _ => by omega)
      refine rt_run 1 rfl ?_
      exact rt_iret rfl rfl (by rw [show p = n + 1 by omega]; exact h)
    | succ d ih =>
      intro p hp
      refine rt_run 2 rfl ?_
      refine rt_getI rfl f3 ?_
      refine rt_gt p n rfl (by omega) (by omega) (fun _ => by omega) (fun _ => ?_)
      refine rt_run 1 rfl ?_
      refine rt_getQ rfl f0 h38 ?_
      refine rt_run 1 rfl ?_
      refine rt_ld p rfl a0 (by omega) ?_
      refine rt_run 2 rfl ?_
      have := ih (p + 1) (by omega)
      rw [nI_succ] at this
      refine rt_if_eq rfl (fun hc => ?_) (fun hc => ?_)
      · refine rt_run 2 rfl ?_
        rw [show ahL (gI τ (k + 1)) set (p + 1) = ahL (gI τ (k + 1)) set p by simp only [ahL, if_pos hc]] at this
        exact this
      · refine rt_run 8 rfl ?_
        rw [show ahL (gI τ (k + 1)) set (p + 1) = ahL (gI τ (k + 1)) set p ||| (1 <<< (nI p &&& 31)) by simp only [ahL, if_neg hc]] at this
        exact this
  refine rt_run 4 rfl ?_
  exact loop (n + 1) 0 (by omega)
theorem after_spec {k n s : Nat} {set : Int32} {τ : Ty} {Q : Option Value → Ty → Prop} (hk : isE k) (hn : gF τ k 3 = nI n) (hn24 : n ≤ 24) (hs : s < 8) (h : Q (some (.int (orL (gI τ (k + 1)) set (n + 1) &&& gI τ (k + 2) s))) τ) : RT mX2_after none 0 [some (.ref k), some (.int set), some (.int (nI s))] [] τ Q := by
  obtain ⟨f0, f1, f2, f3, f4, a0, a1, h38⟩ := isE_f hk
  refine rt_run 2 rfl ?_
  refine rt_cV (ci := 2) mX2_behind kX2_after_2 okX2_behind (isE_s hk) rfl rfl rfl rfl ?_
  refine behind_spec hk hn hn24 ?_
  refine rt_run 1 rfl ?_
  refine rt_getQ rfl f1 h38 ?_
  refine rt_run 1 rfl ?_
  refine rt_ld s rfl a1 hs ?_
  refine rt_run 1 rfl ?_
  exact rt_iret rfl rfl h
theorem wipe_spec {k : Nat} {τ : Ty} {Q : Option Value → Ty → Prop} (hk : isE k) (h : ∀ f g : Nat → Int32, (∀ j, j < 25 → f j = 0) → (∀ j, j < 8 → g j = 0) → Q none (sF (sF (sF (sA (sA τ (k + 1) f) (k + 2) g) k 2 0) k 3 0) k 4 0)) : RT mX2_wipe none 0 [some (.ref k)] [] τ Q := by
  obtain ⟨f0, f1, f2, f3, f4, a0, a1, h38⟩ := isE_f hk
  refine rt_run 1 rfl ?_
  refine rt_getQ rfl f0 h38 ?_
  refine rt_run 1 rfl ?_
  refine rt_cS mJ7_fill_53178 kX2_wipe_5 okJ7_fill_53178 rfl rfl ?_
  refine fill_spec a0 (fun f hf => ?_)
  refine rt_run 1 rfl ?_
  refine rt_getQ rfl f1 h38 ?_
  refine rt_run 1 rfl ?_
  refine rt_cS mJ7_fill_53178 kX2_wipe_13 okJ7_fill_53178 rfl rfl ?_
  refine fill_spec a1 (fun g hg => ?_)
  refine rt_run 2 rfl ?_
  refine rt_putI rfl f2 rfl ?_
  refine rt_run 2 rfl ?_
  refine rt_putI rfl f3 rfl ?_
  refine rt_run 2 rfl ?_
  refine rt_putZ rfl f4 rfl (Or.inl rfl) ?_
  exact rt_vret rfl rfl (h f g hf hg)
theorem become_spec {k k1 : Nat} {τ : Ty} {Q : Option Value → Ty → Prop} (hk : isE k) (hk1 : isE k1) (hne : k ≠ k1) (h : ∀ f g : Nat → Int32, (∀ j, j < 25 → f j = gI τ (k1 + 1) j) → (∀ j, j < 8 → g j = gI τ (k1 + 2) j) → Q none (sF (sF (sF (sA (sA τ (k + 1) f) (k + 2) g) k 2 (gF τ k1 2)) k 3 (gF τ k1 3)) k 4 1)) : RT mX2_become none 0 [some (.ref k), some (.ref k1)] [] τ Q := by
  obtain ⟨f0, f1, f2, f3, f4, a0, a1, h38⟩ := isE_f hk
  obtain ⟨p0, p1, p2, p3, p4, b0, b1, q38⟩ := isE_f hk1
  refine rt_run 1 rfl ?_
  refine rt_getQ rfl p0 q38 ?_
  refine rt_run 2 rfl ?_
  refine rt_getQ rfl f0 h38 ?_
  refine rt_run 2 rfl ?_
  refine rt_copy rfl (by decide +kernel) b0 a0 (by decide) (by decide) (by decide) (by decide) (by decide) (by decide) (by decide) ?_
  refine rt_run 1 rfl ?_
  refine rt_getQ rfl p1 q38 ?_
  refine rt_run 2 rfl ?_
  refine rt_getQ rfl f1 h38 ?_
  refine rt_run 2 rfl ?_
  refine rt_copy rfl (by decide +kernel) b1 a1 (by decide) (by decide) (by decide) (by decide) (by decide) (by decide) (by decide) ?_
  refine rt_run 2 rfl ?_
  refine rt_getI rfl p2 ?_
  refine rt_putI rfl f2 rfl ?_
  refine rt_run 2 rfl ?_
  refine rt_getI rfl p3 ?_
  refine rt_putI rfl f3 rfl ?_
  refine rt_run 2 rfl ?_
  refine rt_putZ rfl f4 rfl (Or.inr rfl) ?_
  refine rt_vret rfl rfl ?_
  have hf3 : gF (sF (sA (sA τ (k + 1) (va_cpy (gI τ (k1 + 1)) (gI τ (k + 1)) 0 0 25)) (k + 2) (va_cpy (gI (sA τ (k + 1) (va_cpy (gI τ (k1 + 1)) (gI τ (k + 1)) 0 0 25)) (k1 + 2)) (gI (sA τ (k + 1) (va_cpy (gI τ (k1 + 1)) (gI τ (k + 1)) 0 0 25)) (k + 2)) 0 0 8)) k 2 (gF τ k1 2)) k1 3 = gF τ k1 3 := by
    rw [gF_sF, if_neg (fun e => hne e.symm)]; rfl
  have hq := h (va_cpy (gI τ (k1 + 1)) (gI τ (k + 1)) 0 0 25) (va_cpy (gI (sA τ (k + 1) (va_cpy (gI τ (k1 + 1)) (gI τ (k + 1)) 0 0 25)) (k1 + 2)) (gI (sA τ (k + 1) (va_cpy (gI τ (k1 + 1)) (gI τ (k + 1)) 0 0 25)) (k + 2)) 0 0 8)
    (fun j hj => by rw [pk_cpy_in (by omega) (by omega)]; congr 1; omega)
    (fun j hj => by
      rw [pk_cpy_in (by omega) (by omega), gI_sA]
      have : ¬ k1 + 2 = k + 1 := by
        rcases hk with rfl | rfl | rfl | rfl | rfl <;> rcases hk1 with rfl | rfl | rfl | rfl | rfl <;> omega
      rw [if_neg this]; congr 1; omega)
  rw [← hf3] at hq
  exact hq
theorem newPlace_spec {k n : Nat} {signs : Int32} {τ : Ty} {Q : Option Value → Ty → Prop} (hk : isE k) (hn : gF τ k 3 = nI n) (hn24 : n < 24)
    (h : ∀ g : Nat → Int32, (∀ s, s < 8 → g s = if bt signs s = true then gI τ (k + 2) s ||| (1 <<< (nI (n + 1) &&& 31)) else gI τ (k + 2) s) → Q (some (.int (1 <<< (nI (n + 1) &&& 31)))) (sA (sF τ k 3 (nI (n + 1))) (k + 2) g)) : RT mX2_newPlace none 0 [some (.ref k), some (.int signs), none, none] [] τ Q := by
  obtain ⟨f0, f1, f2, f3, f4, a0, a1, h38⟩ := isE_f hk
  refine rt_run 1 rfl ?_
  refine rt_getI rfl f3 ?_
  refine rt_run 1 rfl ?_
  refine rt_lt n 24 rfl (by omega) (by omega) (fun _ => ?_) (fun _ => by omega)
  refine rt_run 2 rfl ?_
  refine rt_getI rfl f3 ?_
  refine rt_run 2 rfl ?_
  refine rt_putI rfl f3 rfl ?_
  rw [hn, ← nI_succ]
  refine rt_run 2 rfl ?_
  refine rt_getI rfl f3 ?_
  rw [show gF (sF τ k 3 (nI (n + 1))) k 3 = nI (n + 1) by rw [gF_sF, if_pos rfl]; exact pk_us]
  refine rt_run 4 rfl ?_
  have loop : ∀ d s (g : Nat → Int32), s + d = 8 → (∀ j, j < s → g j = if bt signs j = true then gI τ (k + 2) j ||| (1 <<< (nI (n + 1) &&& 31)) else gI τ (k + 2) j) → (∀ j, s ≤ j → g j = gI τ (k + 2) j) →
      RT mX2_newPlace none 30 [some (.ref k), some (.int signs), some (.int (1 <<< (nI (n + 1) &&& 31))), some (.int (nI s))] [] (sA (sF τ k 3 (nI (n + 1))) (k + 2) g) Q := by
    intro d
    induction d with
    | zero =>
      intro s g hs hg _
      refine rt_run 2 rfl ?_
      refine rt_ge s 8 rfl (by omega) (by omega) (fun _ => ?_) (fun _ => by omega)
      refine rt_run 1 rfl ?_
      exact rt_iret rfl rfl (h g (fun s' hs' => hg s' (by omega)))
    | succ d ih =>
      intro s g hs hg hg2
      refine rt_run 2 rfl ?_
      refine rt_ge s 8 rfl (by omega) (by omega) (fun _ => by omega) (fun _ => ?_)
      refine rt_run 5 rfl ?_
      refine rt_if_eq rfl (fun hc => ?_) (fun hc => ?_)
      · refine rt_run 2 rfl ?_
        have := ih (s + 1) g (by omega) (fun j hj => by
          by_cases hjs : j = s
          · subst hjs; rw [bt_f (by omega) hc]; exact hg2 j (Nat.le_refl _)
          · exact hg j (by omega)) (fun j hj => hg2 j (by omega))
        rw [nI_succ s] at this
        exact this
      · refine rt_run 1 rfl ?_
        refine rt_getQ rfl f1 h38 ?_
        refine rt_run 2 rfl ?_
        refine rt_ld s rfl a1 (by omega) ?_
        refine rt_run 2 rfl ?_
        refine rt_st s rfl a1 (by omega) ?_
        rw [sI_sA, gI_sA, if_pos rfl]
        refine rt_run 2 rfl ?_
        have := ih (s + 1) (upd g s (g s ||| (1 <<< (nI (n + 1) &&& 31)))) (by omega) (fun j hj => by
          by_cases hjs : j = s
          · subst hjs; rw [pk_us, bt_t (by omega) hc, hg2 j (Nat.le_refl _)]; rfl
          · rw [pk_un hjs]; exact hg j (by omega)) (fun j hj => by rw [pk_un (by omega)]; exact hg2 j (by omega))
        rw [nI_succ s] at this
        exact this
  have := loop 8 0 (gI τ (k + 2)) (by omega) (fun j hj => by omega) (fun _ _ => rfl)
  rw [show gI τ (k + 2) = gI (sF τ k 3 (nI (n + 1))) (k + 2) from rfl, sA_self] at this
  exact this
theorem link_spec {k n : Nat} {these beh : Int32} {τ : Ty} {Q : Option Value → Ty → Prop} (hk : isE k) (hn : gF τ k 3 = nI n) (hn24 : n ≤ 24)
    (h : ∀ f : Nat → Int32, (∀ p, f p = if 1 ≤ p ∧ p ≤ n ∧ bt these p = true then gI τ (k + 1) p ||| (beh &&& -2) else gI τ (k + 1) p) → Q none (sA τ (k + 1) f)) : RT mX2_link none 0 [some (.ref k), some (.int these), some (.int beh), none] [] τ Q := by
  obtain ⟨f0, f1, f2, f3, f4, a0, a1, h38⟩ := isE_f hk
  have loop : ∀ d s (f : Nat → Int32), s + d = n + 1 → 1 ≤ s → (∀ j, f j = if 1 ≤ j ∧ j < s ∧ bt these j = true then gI τ (k + 1) j ||| (beh &&& -2) else gI τ (k + 1) j) →
      RT mX2_link none 2 [some (.ref k), some (.int these), some (.int beh), some (.int (nI s))] [] (sA τ (k + 1) f) Q := by
    intro d
    induction d with
    | zero =>
      intro s f hs h1 hf
      refine rt_run 2 rfl ?_
      refine rt_getI rfl f3 ?_
      refine rt_gt s n rfl (by omega) (by omega) (fun _ => ?_) (fun _ => by omega)
      refine rt_vret rfl rfl (h f (fun p => ?_))
      rw [hf p]
      have : (1 ≤ p ∧ p < s ∧ bt these p = true) ↔ (1 ≤ p ∧ p ≤ n ∧ bt these p = true) := by
        constructor <;> intro hh <;> exact ⟨hh.1, by omega, hh.2.2⟩
      simp only [this]
    | succ d ih =>
      intro s f hs h1 hf
      refine rt_run 2 rfl ?_
      refine rt_getI rfl f3 ?_
      refine rt_gt s n rfl (by omega) (by omega) (fun _ => by omega) (fun _ => ?_)
      refine rt_run 5 rfl ?_
      refine rt_if_eq rfl (fun hc => ?_) (fun hc => ?_)
      · refine rt_run 2 rfl ?_
        have := ih (s + 1) f (by omega) (by omega) (fun j => by
          rw [hf j]
          by_cases hjs : j = s
          · subst hjs
            have hb := bt_f (by omega) hc
            simp [hb]
          · have : (1 ≤ j ∧ j < s ∧ bt these j = true) ↔ (1 ≤ j ∧ j < s + 1 ∧ bt these j = true) := by
              constructor <;> intro hh <;> exact ⟨hh.1, by omega, hh.2.2⟩
            simp only [this])
        rw [nI_succ] at this
        exact this
      · refine rt_run 1 rfl ?_
        refine rt_getQ rfl f0 h38 ?_
        refine rt_run 2 rfl ?_
        refine rt_ld s rfl a0 (by omega) ?_
        refine rt_run 4 rfl ?_
        refine rt_st s rfl a0 (by omega) ?_
        rw [sI_sA, gI_sA, if_pos rfl]
        refine rt_run 2 rfl ?_
        have := ih (s + 1) (upd f s (f s ||| (beh &&& -2))) (by omega) (by omega) (fun j => by
          by_cases hjs : j = s
          · subst hjs
            rw [pk_us, hf j, if_neg (by omega), if_pos ⟨h1, by omega, bt_t (by omega) hc⟩]
          · rw [pk_un hjs, hf j]
            have : (1 ≤ j ∧ j < s ∧ bt these j = true) ↔ (1 ≤ j ∧ j < s + 1 ∧ bt these j = true) := by
              constructor <;> intro hh <;> exact ⟨hh.1, by omega, hh.2.2⟩
            simp only [this])
        rw [nI_succ] at this
        exact this
  refine rt_run 2 rfl ?_
  have := loop n 1 (gI τ (k + 1)) (by omega) (by omega) (fun j => by rw [if_neg (by omega)])
  rw [sA_self] at this
  exact this
end
section
/-! Steps and Edges: a graph as a list of edges, its steps as a list -/
abbrev Gr : Type := List (Nat × Nat × Nat)
abbrev SL : Type := List (Nat × Nat × Nat × Nat)
def EdIs (τ : Ty) (G : Gr) : Prop := gF τ 1 3 = nI G.length ∧ (∀ i q, G[i]? = some q → gI τ 2 i = nI q.1 ∧ gI τ 3 i = nI q.2.1 ∧ gI τ 4 i = nI q.2.2) ∧ G.length ≤ 30 ∧ ∀ q ∈ G, q.1 < 10 ∧ q.2.1 < 4 ∧ q.2.2 < 10
def StIs (τ : Ty) (k : Nat) (L : SL) : Prop := gF τ k 4 = nI L.length ∧ ∀ i q, L[i]? = some q → gI τ (k + 1) i = nI q.1 ∧ gI τ (k + 2) i = nI q.2.1 ∧ gI τ (k + 3) i = nI q.2.2.1 ∧ gI τ (k + 4) i = nI q.2.2.2
abbrev kS (k : Nat) : List Nat := [k, k + 1, k + 2, k + 3, k + 4]
theorem getApp {α : Type} {L : List α} {x : α} {i : Nat} {q : α} (h : (L ++ [x])[i]? = some q) : (i < L.length ∧ L[i]? = some q) ∨ (i = L.length ∧ q = x) := by
  by_cases hi : i < L.length
  · rw [List.getElem?_append_left hi] at h
    exact Or.inl ⟨hi, h⟩
  · rw [List.getElem?_append_right (by omega)] at h
    have hlt := (List.getElem?_eq_some_iff.mp h).1
    simp only [List.length_singleton] at hlt
    have e : i = L.length := by omega
    subst e
    rw [Nat.sub_self] at h
    cases h
    exact Or.inr ⟨rfl, rfl⟩
theorem sput_spec {k u s v e : Nat} {L : SL} {τ : Ty} {Q : Option Value → Ty → Prop} (hk : isS k) (hL : StIs τ k L) (hl : L.length < 60)
    (h : ∀ τ', Off (kS k) τ τ' → StIs τ' k (L ++ [(u, s, v, e)]) → Q none τ') : RT mX7_put none 0 [some (.ref k), some (.int (nI u)), some (.int (nI s)), some (.int (nI v)), some (.int (nI e))] [] τ Q := by
  obtain ⟨f0, f1, f2, f3, f4, a0, a1, a2, a3, h38⟩ := isS_f hk
  have hm := hL.1
  refine rt_run 1 rfl ?_
  refine rt_getI rfl f4 ?_
  refine rt_run 1 rfl ?_
  refine rt_lt L.length 60 rfl (by omega) (by omega) (fun _ => ?_) (fun _ => by omega)
  refine rt_run 1 rfl ?_
  refine rt_getQ rfl f0 h38 ?_
  refine rt_run 1 rfl ?_
  refine rt_getI rfl f4 ?_
  refine rt_run 1 rfl ?_
  refine rt_st L.length rfl a0 hl ?_ hm
  refine rt_run 1 rfl ?_
  refine rt_getQ rfl f1 h38 ?_
  refine rt_run 1 rfl ?_
  refine rt_getI rfl f4 ?_
  refine rt_run 1 rfl ?_
  refine rt_st L.length rfl a1 hl ?_ hm
  refine rt_run 1 rfl ?_
  refine rt_getQ rfl f2 h38 ?_
  refine rt_run 1 rfl ?_
  refine rt_getI rfl f4 ?_
  refine rt_run 1 rfl ?_
  refine rt_st L.length rfl a2 hl ?_ hm
  refine rt_run 1 rfl ?_
  refine rt_getQ rfl f3 h38 ?_
  refine rt_run 1 rfl ?_
  refine rt_getI rfl f4 ?_
  refine rt_run 1 rfl ?_
  refine rt_st L.length rfl a3 hl ?_ hm
  refine rt_run 2 rfl ?_
  refine rt_getI rfl f4 ?_
  refine rt_run 2 rfl ?_
  refine rt_putI rfl f4 rfl ?_
  refine rt_vret rfl rfl (h _ ?_ ?_)
  · exact (((((Off.rf _ _).sI (by simp) _ _).sI (by simp) _ _).sI (by simp) _ _).sI (by simp) _ _).sF (by simp) _ _
  · refine ⟨?_, fun i q hq => ?_⟩
    · rw [gF_sF, if_pos rfl, pk_us]
      show gF τ k 4 + 1 = _
      rw [hm, ← nI_succ, List.length_append]; rfl
    · rcases getApp hq with ⟨hi, hq⟩ | ⟨rfl, rfl⟩
      · obtain ⟨g1, g2, g3, g4⟩ := hL.2 i q hq
        have hne : i ≠ L.length := by omega
        simp [gI_sF, gI_sI, pk_un hne, g1, g2, g3, g4]
      · simp [gI_sF, gI_sI, pk_us]
theorem isEdge_spec {G : Gr} {x : Int32} {τ : Ty} {Q : Option Value → Ty → Prop} (hG : EdIs τ G) (h0 : (x < 0 ∨ nI G.length ≤ x) → Q (some (.int 0)) τ) (h1 : ∀ e, e < G.length → x = nI e → Q (some (.int 1)) τ) : RT mX1_isEdge none 0 [some (.ref 1), some (.int x)] [] τ Q := by
  have hm := hG.1
  have hl := hG.2.2.1
  refine rt_run 1 rfl ?_
  refine rt_if_lt rfl (fun hc => ?_) (fun hc => ?_)
  · refine rt_run 1 rfl ?_
    exact rt_zret rfl rfl (Or.inl rfl) (h0 (Or.inl hc))
  · refine rt_run 3 rfl ?_
    refine rt_ic_ge rfl (fun hd => ?_) (fun hd => ?_)
    · refine rt_run 1 rfl ?_
      rw [hm] at hd
      exact rt_zret rfl rfl (Or.inl rfl) (h0 (Or.inr hd))
    · refine rt_run 2 rfl ?_
      rw [hm] at hd
      rcases pk_ix x (n := G.length) (by omega) with h2 | h2 | ⟨j, hj, rfl⟩
      · exact absurd h2 hc
      · exact absurd h2 hd
      · exact rt_zret rfl rfl (Or.inr rfl) (h1 j hj rfl)
theorem has_spec {G : Gr} {u l v : Nat} {τ : Ty} {Q : Option Value → Ty → Prop} (hG : EdIs τ G) (hu : u < 10) (hl : l < 4) (hv : v < 10) (h0 : (u, l, v) ∉ G → Q (some (.int 0)) τ) (h1 : (u, l, v) ∈ G → Q (some (.int 1)) τ) : RT mX1_has none 0 [some (.ref 1), some (.int (nI u)), some (.int (nI l)), some (.int (nI v)), none] [] τ Q := by
  obtain ⟨hm, hG1, hG2, hG3⟩ := hG
  have loop : ∀ d i, i + d = G.length → (∀ j, j < i → G[j]? ≠ some (u, l, v)) → RT mX1_has none 3 [some (.ref 1), some (.int (nI u)), some (.int (nI l)), some (.int (nI v)), some (.int (nI i))] [] τ Q := by
    intro d
    induction d with
    | zero =>
      intro i hi hn
      refine rt_run 3 rfl ?_
      refine rt_ge i G.length rfl (by omega) (by omega) (fun _ => ?_) (fun _ => by omega)
      refine rt_run 1 rfl ?_
      refine rt_zret rfl rfl (Or.inl rfl) (h0 (fun hin => ?_))
      obtain ⟨j, hj⟩ := List.getElem?_of_mem hin
      exact hn j (by have := (List.getElem?_eq_some_iff.mp hj).1; omega) hj
    | succ d ih =>
      intro i hi hn
      refine rt_run 3 rfl ?_
      refine rt_ge i G.length rfl (by omega) (by omega) (fun _ => by omega) (fun hlt => ?_)
      have hq : G[i]? = some G[i] := List.getElem?_eq_getElem hlt
      obtain ⟨g1, g2, g3⟩ := hG1 i _ hq
      obtain ⟨b1, b2, b3⟩ := hG3 _ (List.getElem_mem hlt)
      have next : G[i]? ≠ some (u, l, v) → RT mX1_has none 47 [some (.ref 1), some (.int (nI u)), some (.int (nI l)), some (.int (nI v)), some (.int (nI i))] [] τ Q := by
        intro hne
        refine rt_run 2 rfl ?_
        have := ih (i + 1) (by omega) (fun j hj => by
          by_cases hji : j = i
          · subst hji; exact hne
          · exact hn j (by omega))
        rw [nI_succ] at this
        exact this
      refine rt_run 3 rfl ?_
      refine rt_ld i rfl (n := 30) rfl (by omega) ?_
      refine rt_run 1 rfl ?_
      refine rt_ne G[i].1 u rfl (by omega) (by omega) (fun hc => next (fun e => ?_)) (fun e1 => ?_)
      · rw [hq] at e; exact hc (by rw [Option.some.inj e])
      refine rt_run 3 rfl ?_
      refine rt_ld i rfl (n := 30) rfl (by omega) ?_
      refine rt_run 1 rfl ?_
      refine rt_ne G[i].2.1 l rfl (by omega) (by omega) (fun hc => next (fun e => ?_)) (fun e2 => ?_)
      · rw [hq] at e; exact hc (by rw [Option.some.inj e])
      refine rt_run 3 rfl ?_
      refine rt_ld i rfl (n := 30) rfl (by omega) ?_
      refine rt_run 1 rfl ?_
      refine rt_ne G[i].2.2 v rfl (by omega) (by omega) (fun hc => next (fun e => ?_)) (fun e3 => ?_)
      · rw [hq] at e; exact hc (by rw [Option.some.inj e])
      refine rt_run 1 rfl ?_
      refine rt_zret rfl rfl (Or.inr rfl) (h1 ?_)
      rw [← e1, ← e2, ← e3]
      exact List.getElem_mem hlt
  refine rt_run 2 rfl ?_
  exact loop G.length 0 (by omega) (fun j hj => by omega)
theorem eput_spec {G : Gr} {u l v : Nat} {τ : Ty} {Q : Option Value → Ty → Prop} (hG : EdIs τ G) (hu : u < 10) (hl : l < 4) (hv : v < 10) (hlen : G.length < 30) (h : ∀ τ', Off [1, 2, 3, 4] τ τ' → EdIs τ' (G ++ [(u, l, v)]) → Q none τ') : RT mX1_put none 0 [some (.ref 1), some (.int (nI u)), some (.int (nI l)), some (.int (nI v))] [] τ Q := by
  obtain ⟨hm, hG1, hG2, hG3⟩ := hG
  refine rt_run 3 rfl ?_
  refine rt_lt G.length 30 rfl (by omega) (by omega) (fun _ => ?_) (fun _ => by omega)
  refine rt_run 5 rfl ?_
  refine rt_st G.length rfl (n := 30) rfl hlen ?_ hm
  refine rt_run 5 rfl ?_
  refine rt_st G.length rfl (n := 30) rfl hlen ?_ hm
  refine rt_run 5 rfl ?_
  refine rt_st G.length rfl (n := 30) rfl hlen ?_ hm
  refine rt_run 6 rfl ?_
  refine rt_vret rfl rfl (h _ ?_ ⟨?_, fun i q hq => ?_, ?_, fun q hq => ?_⟩)
  · exact ((((Off.rf _ _).sI (by simp) _ _).sI (by simp) _ _).sI (by simp) _ _).sF (by simp) _ _
  · rw [gF_sF, if_pos rfl, pk_us]
    show gF τ 1 3 + 1 = _
    rw [hm, ← nI_succ, List.length_append]; rfl
  · rcases getApp hq with ⟨hi, hq⟩ | ⟨rfl, rfl⟩
    · obtain ⟨g1, g2, g3⟩ := hG1 i q hq
      have hne : i ≠ G.length := by omega
      simp [gI_sF, gI_sI, pk_un hne, g1, g2, g3]
    · simp [gI_sF, gI_sI, pk_us]
  · rw [List.length_append]; simp; omega
  · rcases List.mem_append.mp hq with hq | hq
    · exact hG3 q hq
    · simp at hq; subst hq; exact ⟨hu, hl, hv⟩
def edV (τ : Ty) (j : Nat) (q : Nat × Nat × Nat) : Prop := gI τ 2 j = nI q.1 ∧ gI τ 3 j = nI q.2.1 ∧ gI τ 4 j = nI q.2.2
theorem remove_spec {G : Gr} {e : Nat} {τ : Ty} {Q : Option Value → Ty → Prop} (hG : EdIs τ G) (he : e < G.length) (h : ∀ τ', Off [1, 2, 3, 4] τ τ' → EdIs τ' (G.eraseIdx e) → Q none τ') : RT mX1_remove none 0 [some (.ref 1), some (.int (nI e)), none] [] τ Q := by
  obtain ⟨hm, hG1, hG2, hG3⟩ := hG
  have loop : ∀ d i τ', i + d = G.length → e < i → gF τ' 1 3 = nI G.length → Off [1, 2, 3, 4] τ τ' → (∀ j q, j + 1 < i → (G.eraseIdx e)[j]? = some q → edV τ' j q) → (∀ j q, i ≤ j → G[j]? = some q → edV τ' j q) →
      RT mX1_remove none 4 [some (.ref 1), some (.int (nI e)), some (.int (nI i))] [] τ' Q := by
    intro d
    induction d with
    | zero =>
      intro i τ' hi hei hm' hO h1 h2
      refine rt_run 3 rfl ?_
      refine rt_ge i G.length rfl (by omega) (by omega) (fun _ => ?_) (fun _ => by omega)
      refine rt_run 6 rfl ?_
      have hlen : (G.eraseIdx e).length = G.length - 1 := List.length_eraseIdx_of_lt he
      refine rt_vret rfl rfl (h _ (hO.sF (by simp) _ _) ⟨?_, fun j q hq => ?_, by omega, fun q hq => hG3 q (List.mem_of_mem_eraseIdx hq)⟩)
      · rw [gF_sF, if_pos rfl, pk_us, hm', hlen, show G.length = (G.length - 1) + 1 by omega, nI_pred, Nat.add_sub_cancel]
      · have hj := (List.getElem?_eq_some_iff.mp hq).1
        exact h1 j q (by omega) hq
    | succ d ih =>
      intro i τ' hi hei hm' hO h1 h2
      refine rt_run 3 rfl ?_
      refine rt_ge i G.length rfl (by omega) (by omega) (fun _ => by omega) (fun hlt => ?_)
      have hq : G[i]? = some G[i] := List.getElem?_eq_getElem hlt
      obtain ⟨g1, g2, g3⟩ := h2 i _ (Nat.le_refl _) hq
      have hi1 : nI i - 1 = nI (i - 1) := by rw [show i = (i - 1) + 1 by omega, nI_pred, Nat.add_sub_cancel]
      refine rt_run 8 rfl ?_
      refine rt_ld i rfl (n := 30) rfl (by omega) ?_
      refine rt_st (i - 1) rfl (n := 30) rfl (by omega) ?_ hi1
      refine rt_run 8 rfl ?_
      refine rt_ld i rfl (n := 30) rfl (by omega) ?_
      refine rt_st (i - 1) rfl (n := 30) rfl (by omega) ?_ hi1
      refine rt_run 8 rfl ?_
      refine rt_ld i rfl (n := 30) rfl (by omega) ?_
      refine rt_st (i - 1) rfl (n := 30) rfl (by omega) ?_ hi1
      refine rt_run 2 rfl ?_
      rw [← nI_succ]
      refine ih (i + 1) _ (by omega) (by omega) hm' (((hO.sI (by simp) _ _).sI (by simp) _ _).sI (by simp) _ _) (fun j q hj hjq => ?_) (fun j q hj hjq => ?_)
      · by_cases hji : j = i - 1
        · subst hji
          rw [List.getElem?_eraseIdx, if_neg (by omega), show i - 1 + 1 = i by omega, hq] at hjq
          cases hjq
          have hne : i ≠ i - 1 := by omega
          simp [edV, gI_sI, pk_us, pk_un hne, g1, g2, g3]
        · obtain ⟨v1, v2, v3⟩ := h1 j q (by omega) hjq
          have hne : j ≠ i - 1 := hji
          simp [edV, gI_sI, pk_un hne, v1, v2, v3]
      · obtain ⟨v1, v2, v3⟩ := h2 j q (by omega) hjq
        have hne : j ≠ i - 1 := by omega
        simp [edV, gI_sI, pk_un hne, v1, v2, v3]
  refine rt_run 4 rfl ?_
  have := loop (G.length - (e + 1)) (e + 1) τ (by omega) (by omega) hm (Off.rf _ _) (fun j q hj hjq => by
    rw [List.getElem?_eraseIdx, if_pos (by omega)] at hjq
    exact hG1 j q hjq) (fun j q _ hjq => hG1 j q hjq)
  rw [nI_succ] at this
  exact this
/-- the steps of the first edges, one of them left out: along them, back along them -/
def fwdN (G : Gr) (w : Option Nat) : Nat → SL
  | 0 => []
  | i + 1 => fwdN G w i ++ (match G[i]? with
    | some q => if w = some i then [] else [(q.1, q.2.1, q.2.2, i)]
    | none => [])
def bwdN (G : Gr) (w : Option Nat) : Nat → SL
  | 0 => []
  | i + 1 => bwdN G w i ++ (match G[i]? with
    | some q => if w = some i then [] else [(q.2.2, q.2.1 + 4, q.1, i)]
    | none => [])
def stL (G : Gr) (w : Option Nat) : SL := fwdN G w G.length ++ bwdN G w G.length
theorem fwdN_len (G : Gr) (w : Option Nat) (n : Nat) : (fwdN G w n).length ≤ n := by
  induction n with
  | zero => simp [fwdN]
  | succ n ih =>
    unfold fwdN
    rw [List.length_append]
    cases G[n]? with
    | none => simp; omega
    | some q =>
      by_cases hw : w = some n
      · simp only [if_pos hw, List.length_nil]; omega
      · simp only [if_neg hw, List.length_singleton]; omega
theorem bwdN_len (G : Gr) (w : Option Nat) (n : Nat) : (bwdN G w n).length ≤ n := by
  induction n with
  | zero => simp [bwdN]
  | succ n ih =>
    unfold bwdN
    rw [List.length_append]
    cases G[n]? with
    | none => simp; omega
    | some q =>
      by_cases hw : w = some n
      · simp only [if_pos hw, List.length_nil]; omega
      · simp only [if_neg hw, List.length_singleton]; omega
theorem fwdN_s {G : Gr} {w : Option Nat} {i : Nat} {q : Nat × Nat × Nat} (hq : G[i]? = some q) : fwdN G w (i + 1) = fwdN G w i ++ (if w = some i then [] else [(q.1, q.2.1, q.2.2, i)]) := by simp only [fwdN, hq]
theorem bwdN_s {G : Gr} {w : Option Nat} {i : Nat} {q : Nat × Nat × Nat} (hq : G[i]? = some q) : bwdN G w (i + 1) = bwdN G w i ++ (if w = some i then [] else [(q.2.2, q.2.1 + 4, q.1, i)]) := by simp only [bwdN, hq]
/-- an edge left out, as the code says it -/
def wI (w : Option Nat) : Int32 := match w with
  | none => -1
  | some e => nI e
theorem wI_eq {w : Option Nat} {i : Nat} (hw : ∀ e, w = some e → e < 100) (hi : i < 100) : nI i = wI w ↔ w = some i := by
  cases w with
  | none =>
    constructor
    · intro h
      have h1 : (nI i).toInt = (i : Int) := nI_toInt (by omega)
      have h2 : (-1 : Int32).toInt = -1 := by decide
      rw [h] at h1
      have h1 : (-1 : Int32).toInt = (i : Int) := h1
      omega
    · intro h; cases h
  | some e =>
    have := hw e rfl
    rw [show wI (some e) = nI e from rfl, nI_eq (by omega) (by omega)]
    constructor
    · intro h; rw [h]
    · intro h; exact (Option.some.inj h).symm
theorem EdIs.off {ks : List Nat} {τ τ' : Ty} {G : Gr} (h : EdIs τ G) (ho : Off ks τ τ') (h1 : 1 ∉ ks ∧ 2 ∉ ks ∧ 3 ∉ ks ∧ 4 ∉ ks) : EdIs τ' G := by
  refine ⟨by rw [(ho.1 1 h1.1).2.2]; exact h.1, fun i q hq => ?_, h.2.2⟩
  rw [(ho.1 2 h1.2.1).1, (ho.1 3 h1.2.2.1).1, (ho.1 4 h1.2.2.2).1]
  exact h.2.1 i q hq
theorem spell_spec {G : Gr} {k : Nat} {w : Option Nat} {τ : Ty} {Q : Option Value → Ty → Prop} (hk : isS k) (hG : EdIs τ G) (hw : ∀ e, w = some e → e < 100) (h : ∀ τ', Off (kS k) τ τ' → StIs τ' k (stL G w) → Q none τ') : RT mX1_spell none 0 [some (.ref 1), some (.ref k), some (.int (wI w)), none] [] τ Q := by
  obtain ⟨f0, f1, f2, f3, f4, a0, a1, a2, a3, h38⟩ := isS_f hk
  have hoff : 1 ∉ kS k ∧ 2 ∉ kS k ∧ 3 ∉ kS k ∧ 4 ∉ kS k := by rcases hk with rfl | rfl | rfl <;> decide
  have hlen := hG.2.2.1
  have loop2 : ∀ d i τ', i + d = G.length → Off (kS k) τ τ' → StIs τ' k (fwdN G w G.length ++ bwdN G w i) → RT mX1_spell none 51 [some (.ref 1), some (.ref k), some (.int (wI w)), some (.int (nI i))] [] τ' Q := by
    intro d
    induction d with
    | zero =>
      intro i τ' hi hO hS
      have hG' := hG.off hO hoff
      refine rt_run 3 rfl ?_
      refine rt_ge i G.length rfl (by omega) (by omega) (fun _ => ?_) (fun _ => by omega) rfl hG'.1
      refine rt_vret rfl rfl (h τ' hO ?_)
      rw [show i = G.length by omega] at hS
      exact hS
    | succ d ih =>
      intro i τ' hi hO hS
      have hG' := hG.off hO hoff
      refine rt_run 3 rfl ?_
      refine rt_ge i G.length rfl (by omega) (by omega) (fun _ => by omega) (fun hlt => ?_) rfl hG'.1
      have hq : G[i]? = some G[i] := List.getElem?_eq_getElem hlt
      obtain ⟨g1, g2, g3⟩ := hG'.2.1 i _ hq
      refine rt_run 2 rfl ?_
      refine rt_ic_eq rfl (fun hc => ?_) (fun hc => ?_)
      · refine rt_run 2 rfl ?_
        rw [← nI_succ]
        refine ih (i + 1) τ' (by omega) hO ?_
        rw [bwdN_s hq, if_pos ((wI_eq hw (by omega)).mp hc), List.append_nil]
        exact hS
      · refine rt_run 4 rfl ?_
        refine rt_ld i rfl (n := 30) rfl (by omega) ?_
        refine rt_run 3 rfl ?_
        refine rt_ld i rfl (n := 30) rfl (by omega) ?_
        refine rt_run 5 rfl ?_
        refine rt_ld i rfl (n := 30) rfl (by omega) ?_
        refine rt_run 1 rfl ?_
        rw [g1, g2, g3, show nI G[i].2.1 + 4 = nI (G[i].2.1 + 4) by rw [← nI_add]; rfl]
        have hL := fwdN_len G w G.length
        have hL2 := bwdN_len G w i
        refine rt_cV (ci := 7) mX7_put kX1_spell_86 okX7_put (isS_s hk) rfl rfl rfl rfl ?_
        refine sput_spec hk hS (by rw [List.length_append]; omega) (fun τ'' hO2 hS2 => ?_)
        refine rt_run 2 rfl ?_
        rw [← nI_succ]
        refine ih (i + 1) τ'' (by omega) (hO.tr hO2) ?_
        rw [bwdN_s hq, if_neg (fun hh => hc ((wI_eq hw (by omega)).mpr hh)), ← List.append_assoc]
        exact hS2
  have loop1 : ∀ d i τ', i + d = G.length → Off (kS k) τ τ' → StIs τ' k (fwdN G w i) → RT mX1_spell none 7 [some (.ref 1), some (.ref k), some (.int (wI w)), some (.int (nI i))] [] τ' Q := by
    intro d
    induction d with
    | zero =>
      intro i τ' hi hO hS
      have hG' := hG.off hO hoff
      refine rt_run 3 rfl ?_
      refine rt_ge i G.length rfl (by omega) (by omega) (fun _ => ?_) (fun _ => by omega) rfl hG'.1
      refine rt_run 2 rfl ?_
      refine loop2 G.length 0 τ' (by omega) hO ?_
      rw [show i = G.length by omega] at hS
      simpa [bwdN] using hS
    | succ d ih =>
      intro i τ' hi hO hS
      have hG' := hG.off hO hoff
      refine rt_run 3 rfl ?_
      refine rt_ge i G.length rfl (by omega) (by omega) (fun _ => by omega) (fun hlt => ?_) rfl hG'.1
      have hq : G[i]? = some G[i] := List.getElem?_eq_getElem hlt
      obtain ⟨g1, g2, g3⟩ := hG'.2.1 i _ hq
      refine rt_run 2 rfl ?_
      refine rt_ic_eq rfl (fun hc => ?_) (fun hc => ?_)
      · refine rt_run 2 rfl ?_
        rw [← nI_succ]
        refine ih (i + 1) τ' (by omega) hO ?_
        rw [fwdN_s hq, if_pos ((wI_eq hw (by omega)).mp hc), List.append_nil]
        exact hS
      · refine rt_run 4 rfl ?_
        refine rt_ld i rfl (n := 30) rfl (by omega) ?_
        refine rt_run 3 rfl ?_
        refine rt_ld i rfl (n := 30) rfl (by omega) ?_
        refine rt_run 3 rfl ?_
        refine rt_ld i rfl (n := 30) rfl (by omega) ?_
        refine rt_run 1 rfl ?_
        rw [g1, g2, g3]
        have hL := fwdN_len G w i
        refine rt_cV (ci := 7) mX7_put kX1_spell_40 okX7_put (isS_s hk) rfl rfl rfl rfl ?_
        refine sput_spec hk hS (by omega) (fun τ'' hO2 hS2 => ?_)
        refine rt_run 2 rfl ?_
        rw [← nI_succ]
        refine ih (i + 1) τ'' (by omega) (hO.tr hO2) ?_
        rw [fwdN_s hq, if_neg (fun hh => hc ((wI_eq hw (by omega)).mpr hh))]
        exact hS2
  refine rt_run 2 rfl ?_
  refine rt_putI rfl f4 rfl ?_
  refine rt_run 2 rfl ?_
  refine loop1 G.length 0 _ (by omega) ((Off.rf _ _).sF (by simp) _ _) ⟨?_, fun i q hq => by simp [fwdN] at hq⟩
  rw [gF_sF, if_pos rfl, pk_us]; rfl
end
section
/-! an expression as what its bits say; Reach.spreads -/
/-- which places follow which (0 is the beginning), which bear a sign, which can be last, how many there are -/
abbrev AE : Type := (Nat → Nat → Bool) × (Nat → Nat → Bool) × (Nat → Bool) × Nat
def AEwf (A : AE) : Prop := A.2.2.2 ≤ 24 ∧ (∀ p i, A.1 p i = true → p ≤ A.2.2.2 ∧ 1 ≤ i ∧ i ≤ A.2.2.2) ∧ (∀ s i, A.2.1 s i = true → 1 ≤ i ∧ i ≤ A.2.2.2) ∧ ∀ i, A.2.2.1 i = true → i ≤ A.2.2.2
def ExIs (τ : Ty) (k : Nat) (A : AE) : Prop := gF τ k 3 = nI A.2.2.2 ∧ (∀ p, p < 25 → ∀ i, i < 32 → bt (gI τ (k + 1) p) i = A.1 p i) ∧ (∀ s, s < 8 → ∀ i, i < 32 → bt (gI τ (k + 2) s) i = A.2.1 s i) ∧ (∀ i, i < 32 → bt (gF τ k 2) i = A.2.2.1 i) ∧ AEwf A
theorem ExIs.off {ks : List Nat} {τ τ' : Ty} {k : Nat} {A : AE} (h : ExIs τ k A) (ho : Off ks τ τ') (h1 : k ∉ ks ∧ k + 1 ∉ ks ∧ k + 2 ∉ ks) : ExIs τ' k A := by
  refine ⟨by rw [(ho.1 k h1.1).2.2]; exact h.1, fun p hp i hi => ?_, fun s hs i hi => ?_, fun i hi => ?_, h.2.2.2.2⟩
  · rw [(ho.1 _ h1.2.1).1]; exact h.2.1 p hp i hi
  · rw [(ho.1 _ h1.2.2).1]; exact h.2.2.1 s hs i hi
  · rw [(ho.1 k h1.1).2.2]; exact h.2.2.2.1 i hi
theorem StIs.off {ks : List Nat} {τ τ' : Ty} {k : Nat} {L : SL} (h : StIs τ k L) (ho : Off ks τ τ') (h1 : k ∉ ks ∧ k + 1 ∉ ks ∧ k + 2 ∉ ks ∧ k + 3 ∉ ks ∧ k + 4 ∉ ks) : StIs τ' k L := by
  refine ⟨by rw [(ho.1 k h1.1).2.2]; exact h.1, fun i q hq => ?_⟩
  rw [(ho.1 _ h1.2.1).1, (ho.1 _ h1.2.2.1).1, (ho.1 _ h1.2.2.2.1).1, (ho.1 _ h1.2.2.2.2).1]
  exact h.2 i q hq
/-- the places behind a set -/
def nxt (A : AE) (S : Nat → Bool) (i : Nat) : Bool := (List.range 25).any (fun p => S p && A.1 p i)
theorem any_ext {n m : Nat} {f g : Nat → Bool} (hnm : n ≤ m) (h1 : ∀ p, p < n → f p = g p) (h2 : ∀ p, n ≤ p → p < m → g p = false) : (List.range n).any f = (List.range m).any g := by
  rw [Bool.eq_iff_iff]
  simp only [List.any_eq_true, List.mem_range]
  constructor
  · rintro ⟨p, hp, hf⟩
    exact ⟨p, by omega, by rw [← h1 p hp]; exact hf⟩
  · rintro ⟨p, hp, hg⟩
    by_cases hpn : p < n
    · exact ⟨p, hpn, by rw [h1 p hpn]; exact hg⟩
    · rw [h2 p (by omega) hp] at hg; cases hg
theorem behind_bt {τ : Ty} {k : Nat} {A : AE} {set : Int32} {S : Nat → Bool} (hE : ExIs τ k A) (hS : ∀ i, i < 32 → bt set i = S i) {i : Nat} (hi : i < 32) : bt (orL (gI τ (k + 1)) set (A.2.2.2 + 1)) i = nxt A S i := by
  have hn := hE.2.2.2.2.1
  rw [orL_bt]
  refine any_ext (by omega) (fun p hp => ?_) (fun p hp hp2 => ?_)
  · rw [hS p (by omega), hE.2.1 p (by omega) i hi]
  · cases hf : A.1 p i with
    | false => simp
    | true => have := (hE.2.2.2.2.2.1 p i hf).1; omega
theorem behind_specA {k : Nat} {A : AE} {set : Int32} {S : Nat → Bool} {τ : Ty} {Q : Option Value → Ty → Prop} (hk : isE k) (hE : ExIs τ k A) (hS : ∀ i, i < 32 → bt set i = S i) (h : ∀ r : Int32, (∀ i, i < 32 → bt r i = nxt A S i) → Q (some (.int r)) τ) : RT mX2_behind none 0 [some (.ref k), some (.int set), none, none] [] τ Q :=
  behind_spec hk hE.1 hE.2.2.2.2.1 (h _ (fun _ hi => behind_bt hE hS hi))
def BitsAt (τ : Ty) (k : Nat) (S : Nat → Nat → Bool) : Prop := ∀ v, v < 10 → ∀ i, i < 32 → bt (gI τ k v) i = S v i
def StOk (L : SL) : Prop := L.length ≤ 60 ∧ ∀ q ∈ L, q.1 < 10 ∧ q.2.1 < 8 ∧ q.2.2.1 < 10
/-- where one step leads to from what is at each vertex -/
def hit (L : SL) (A : AE) (fr : Nat → Nat → Bool) (w q : Nat) : Bool := L.any (fun st => decide (st.2.2.1 = w) && nxt A (fr st.1) q && A.2.1 st.2.1 q)
theorem hit_take {L : SL} {A : AE} {fr : Nat → Nat → Bool} {i : Nat} {st : Nat × Nat × Nat × Nat} (h : L[i]? = some st) (w q : Nat) : hit (L.take (i + 1)) A fr w q = (hit (L.take i) A fr w q || (decide (st.2.2.1 = w) && nxt A (fr st.1) q && A.2.1 st.2.1 q)) := by
  unfold hit
  rw [List.take_add_one, h, List.any_append]
  simp
theorem nxt_zero {A : AE} {S : Nat → Bool} (h : ∀ p, p < 25 → S p = false) (i : Nat) : nxt A S i = false := by
  unfold nxt
  rw [Bool.eq_false_iff]
  intro hh
  obtain ⟨p, hp, h2⟩ := List.any_eq_true.mp hh
  rw [h p (List.mem_range.mp hp)] at h2
  cases h2
theorem BitsAt.up {τ : Ty} {k j : Nat} {x : Int32} {S S' : Nat → Nat → Bool} (h : BitsAt τ k S) (h1 : ∀ i, i < 32 → bt x i = S' j i) (h2 : ∀ v, v ≠ j → S' v = S v) : BitsAt (sI τ k j x) k S' := by
  intro v hv i hi
  rw [gI_sI, if_pos rfl]
  by_cases hvj : v = j
  · subst hvj; rw [pk_us]; exact h1 i hi
  · rw [pk_un hvj, h2 v hvj]; exact h v hv i hi
theorem BitsAt.ne {τ : Ty} {k k' j : Nat} {x : Int32} {S : Nat → Nat → Bool} (h : BitsAt τ k S) (hne : k ≠ k') : BitsAt (sI τ k' j x) k S := by
  intro v hv i hi
  rw [gI_sI, if_neg hne]
  exact h v hv i hi
theorem BitsAt.off {ks : List Nat} {τ τ' : Ty} {k : Nat} {S : Nat → Nat → Bool} (h : BitsAt τ k S) (ho : Off ks τ τ') (hk : k ∉ ks) : BitsAt τ' k S := by
  intro v hv i hi
  rw [(ho.1 k hk).1]
  exact h v hv i hi
theorem offE {k : Nat} (hk : isE k) : k ∉ [31, 32, 33] ∧ k + 1 ∉ [31, 32, 33] ∧ k + 2 ∉ [31, 32, 33] := by rcases hk with rfl | rfl | rfl | rfl | rfl <;> decide
theorem offS {k : Nat} (hk : isS k) : k ∉ [31, 32, 33] ∧ k + 1 ∉ [31, 32, 33] ∧ k + 2 ∉ [31, 32, 33] ∧ k + 3 ∉ [31, 32, 33] ∧ k + 4 ∉ [31, 32, 33] := by rcases hk with rfl | rfl | rfl <;> decide
theorem spreads_spec {ke ks : Nat} {A : AE} {L : SL} {sn fr : Nat → Nat → Bool} {τ : Ty} {Q : Option Value → Ty → Prop} (hke : isE ke) (hks : isS ks) (hE : ExIs τ ke A) (hS : StIs τ ks L) (hL : StOk L) (hsn : BitsAt τ 31 sn) (hfr : BitsAt τ 32 fr)
    (h : ∀ τ' (r : Int32), Off [31, 32, 33] τ τ' → BitsAt τ' 31 (fun w q => sn w q || (hit L A fr w q && !sn w q)) → BitsAt τ' 32 (fun w q => hit L A fr w q && !sn w q) → ((r = 1 ∧ ∃ v, v < 10 ∧ ∃ i, i < 32 ∧ (hit L A fr v i && !sn v i) = true) ∨ (r = 0 ∧ ∀ v, v < 10 → ∀ i, i < 32 → (hit L A fr v i && !sn v i) = false)) → Q (some (.int r)) τ') :
    RT mX3_spreads none 0 [some (.ref 30), some (.ref ke), some (.ref ks), none, none, none, none] [] τ Q := by
  obtain ⟨s0, s1, s2, s3, s4, b0, b1, b2, b3, q38⟩ := isS_f hks
  obtain ⟨f0, f1, f2, f3, f4, a0, a1, h38⟩ := isE_f hke
  have loop2 : ∀ d i τ' (r : Int32) (x5 x6 : Option Value), i + d = L.length → Off [31, 32, 33] τ τ' → BitsAt τ' 33 (fun v q => nxt A (fr v) q) → BitsAt τ' 31 (fun w q => sn w q || (hit (L.take i) A fr w q && !sn w q)) → BitsAt τ' 32 (fun w q => hit (L.take i) A fr w q && !sn w q) → ((r = 1 ∧ ∃ v, v < 10 ∧ ∃ j, j < 32 ∧ (hit (L.take i) A fr v j && !sn v j) = true) ∨ (r = 0 ∧ ∀ v, v < 10 → ∀ j, j < 32 → (hit (L.take i) A fr v j && !sn v j) = false)) →
      RT mX3_spreads none 55 [some (.ref 30), some (.ref ke), some (.ref ks), some (.int r), some (.int (nI i)), x5, x6] [] τ' Q := by
    intro d
    induction d with
    | zero =>
      intro i τ' r x5 x6 hi hO hgo hse hfe hr
      have hS' := hS.off hO (offS hks)
      have hl := hL.1
      refine rt_run 2 rfl ?_
      refine rt_getI rfl s4 ?_
      refine rt_ge i L.length rfl (by omega) (by omega) (fun _ => ?_) (fun _ => by omega) rfl hS'.1
      refine rt_run 1 rfl ?_
      rw [List.take_of_length_le (by omega)] at hse hfe hr
      exact rt_zret rfl rfl (by rcases hr with hr | hr; exact Or.inr hr.1; exact Or.inl hr.1) (h τ' r hO hse hfe hr)
    | succ d ih =>
      intro i τ' r x5 x6 hi hO hgo hse hfe hr
      have hS' := hS.off hO (offS hks)
      have hE' := hE.off hO (offE hke)
      have hl := hL.1
      refine rt_run 2 rfl ?_
      refine rt_getI rfl s4 ?_
      refine rt_ge i L.length rfl (by omega) (by omega) (fun _ => by omega) (fun hlt => ?_) rfl hS'.1
      have hq : L[i]? = some L[i] := List.getElem?_eq_getElem hlt
      obtain ⟨g1, g2, g3, g4⟩ := hS'.2 i _ hq
      obtain ⟨c1, c2, c3⟩ := hL.2 _ (List.getElem_mem hlt)
      refine rt_run 1 rfl ?_
      refine rt_getQ rfl s2 q38 ?_
      refine rt_run 1 rfl ?_
      refine rt_ld i rfl b2 (by omega) ?_
      rw [g3]
      refine rt_run 3 rfl ?_
      refine rt_run 1 rfl ?_
      refine rt_getQ rfl s0 q38 ?_
      refine rt_run 1 rfl ?_
      refine rt_ld i rfl b0 (by omega) ?_
      refine rt_ld L[i].1 rfl (n := 10) rfl c1 ?_ g1
      refine rt_run 1 rfl ?_
      refine rt_getQ rfl f1 h38 ?_
      refine rt_run 1 rfl ?_
      refine rt_getQ rfl s1 q38 ?_
      refine rt_run 1 rfl ?_
      refine rt_ld i rfl b1 (by omega) ?_
      refine rt_ld L[i].2.1 rfl a1 c2 ?_ g2
      refine rt_run 4 rfl ?_
      refine rt_ld L[i].2.2.1 rfl (n := 10) rfl c3 ?_
      refine rt_run 5 rfl ?_
      generalize hcame : gI τ' 33 L[i].1 &&& gI τ' (ke + 2) L[i].2.1 &&& (gI τ' 31 L[i].2.2.1 ^^^ -1) = came
      have hcb : ∀ q, q < 32 → bt came q = (nxt A (fr L[i].1) q && A.2.1 L[i].2.1 q && !(sn L[i].2.2.1 q || (hit (L.take i) A fr L[i].2.2.1 q && !sn L[i].2.2.1 q))) := by
        intro q hq32
        rw [← hcame, b_and, b_and, b_not hq32, hgo _ c1 q hq32, hE'.2.2.1 _ c2 q hq32, hse _ c3 q hq32]
      refine rt_if_eq rfl (fun hc => ?_) (fun hc => ?_)
      · have hz : ∀ w q, q < 32 → (hit (L.take (i + 1)) A fr w q && !sn w q) = (hit (L.take i) A fr w q && !sn w q) := by
          intro w q hq32
          rw [hit_take hq]
          by_cases hw : L[i].2.2.1 = w
          · have := hcb q hq32
            rw [hc, b_0, hw] at this
            simp only [hw, decide_true, Bool.true_and]
            revert this
            cases nxt A (fr L[i].1) q <;> cases A.2.1 L[i].2.1 q <;> cases sn w q <;> cases hit (L.take i) A fr w q <;> simp
          · simp [hw]
        refine rt_run 2 rfl ?_
        rw [← nI_succ]
        refine ih (i + 1) τ' r _ _ (by omega) hO hgo (fun v hv q hq32 => ?_) (fun v hv q hq32 => ?_) ?_
        · dsimp only; rw [hz v q hq32]; exact hse v hv q hq32
        · dsimp only; rw [hz v q hq32]; exact hfe v hv q hq32
        · rcases hr with ⟨h1, v, hv, j, hj, h2⟩ | ⟨h1, h2⟩
          · exact Or.inl ⟨h1, v, hv, j, hj, by rw [hz v j hj]; exact h2⟩
          · exact Or.inr ⟨h1, fun v hv j hj => by rw [hz v j hj]; exact h2 v hv j hj⟩
      · have hz : ∀ w q, w ≠ L[i].2.2.1 → (hit (L.take (i + 1)) A fr w q && !sn w q) = (hit (L.take i) A fr w q && !sn w q) := by
          intro w q hw
          rw [hit_take hq]
          have : ¬ L[i].2.2.1 = w := fun e => hw e.symm
          simp [this]
        have hb1 : ∀ q, q < 32 → bt (gI τ' 31 L[i].2.2.1 ||| came) q = (sn L[i].2.2.1 q || (hit (L.take (i + 1)) A fr L[i].2.2.1 q && !sn L[i].2.2.1 q)) := by
          intro q hq32
          rw [b_or, hcb q hq32, hse _ c3 q hq32, hit_take hq]
          simp only [decide_true, Bool.true_and]
          cases nxt A (fr L[i].1) q <;> cases A.2.1 L[i].2.1 q <;> cases sn L[i].2.2.1 q <;> cases hit (L.take i) A fr L[i].2.2.1 q <;> simp
        have hb2 : ∀ q, q < 32 → bt (gI τ' 32 L[i].2.2.1 ||| came) q = (hit (L.take (i + 1)) A fr L[i].2.2.1 q && !sn L[i].2.2.1 q) := by
          intro q hq32
          rw [b_or, hcb q hq32, hfe _ c3 q hq32, hit_take hq]
          simp only [decide_true, Bool.true_and]
          cases nxt A (fr L[i].1) q <;> cases A.2.1 L[i].2.1 q <;> cases sn L[i].2.2.1 q <;> cases hit (L.take i) A fr L[i].2.2.1 q <;> simp
        refine rt_run 4 rfl ?_
        refine rt_ld L[i].2.2.1 rfl (n := 10) rfl c3 ?_
        refine rt_run 2 rfl ?_
        refine rt_st L[i].2.2.1 rfl (n := 10) rfl c3 ?_
        refine rt_run 4 rfl ?_
        refine rt_ld L[i].2.2.1 rfl (n := 10) rfl c3 ?_
        refine rt_run 2 rfl ?_
        refine rt_st L[i].2.2.1 rfl (n := 10) rfl c3 ?_
        refine rt_run 4 rfl ?_
        rw [← nI_succ]
        refine ih (i + 1) _ 1 _ _ (by omega) ((hO.sI (by simp) _ _).sI (by simp) _ _) ((hgo.ne (by decide)).ne (by decide)) ?_ ?_ ?_
        · refine BitsAt.ne ?_ (by decide)
          refine hse.up hb1 (fun v hv => ?_)
          funext q
          rw [hz v q hv]
        · refine (hfe.ne (by decide)).up hb2 (fun v hv => ?_)
          funext q
          rw [hz v q hv]
        · left
          refine ⟨rfl, L[i].2.2.1, c3, ?_⟩
          have : ∃ q, q < 32 ∧ bt came q = true := by
            by_cases hh : ∃ q, q < 32 ∧ bt came q = true
            · exact hh
            · exfalso
              refine hc (b_zero.mpr (fun q hq32 => ?_))
              cases hb : bt came q with
              | false => rfl
              | true => exact absurd ⟨q, hq32, hb⟩ hh
          obtain ⟨q, hq32, hb⟩ := this
          refine ⟨q, hq32, ?_⟩
          rw [← hb2 q hq32, b_or, hb, Bool.or_true]
  have loop1 : ∀ d v τ', v + d = 10 → Off [31, 32, 33] τ τ' → gI τ' 31 = gI τ 31 → (∀ u, u < v → ∀ i, i < 32 → bt (gI τ' 33 u) i = nxt A (fr u) i) → (∀ u, u < v → gI τ' 32 u = 0) → (∀ u, v ≤ u → gI τ' 32 u = gI τ 32 u) →
      RT mX3_spreads none 2 [some (.ref 30), some (.ref ke), some (.ref ks), some (.int (nI v)), none, none, none] [] τ' Q := by
    intro d
    induction d with
    | zero =>
      intro v τ' hv hO h31 hgo h0 hrest
      refine rt_run 2 rfl ?_
      refine rt_ge v 10 rfl (by omega) (by omega) (fun _ => ?_) (fun _ => by omega)
      refine rt_run 4 rfl ?_
      refine loop2 L.length 0 τ' 0 none none (by omega) hO (fun u hu i hi => hgo u (by omega) i hi) (fun u hu i hi => ?_) (fun u hu i hi => ?_) (Or.inr ⟨rfl, fun u hu i hi => ?_⟩)
      · rw [h31]; rw [hsn u hu i hi]; simp [hit]
      · rw [h0 u (by omega), b_0]; simp [hit]
      · simp [hit]
    | succ d ih =>
      intro v τ' hv hO h31 hgo h0 hrest
      have hE' := hE.off hO (offE hke)
      refine rt_run 2 rfl ?_
      refine rt_ge v 10 rfl (by omega) (by omega) (fun _ => by omega) (fun _ => ?_)
      refine rt_run 6 rfl ?_
      refine rt_ld v rfl (n := 10) rfl (by omega) ?_
      have hfv : gI τ' 32 v = gI τ 32 v := hrest v (Nat.le_refl _)
      have fin : ∀ x : Int32, (∀ i, i < 32 → bt x i = nxt A (fr v) i) → RT mX3_spreads none 36 [some (.ref 30), some (.ref ke), some (.ref ks), some (.int (nI v)), none, none, none] [.int x, .int (nI v), .ref 33] τ' Q := by
        intro x hx
        refine rt_st v rfl (n := 10) rfl (by omega) ?_
        refine rt_run 4 rfl ?_
        refine rt_st v rfl (n := 10) rfl (by omega) ?_
        refine rt_run 2 rfl ?_
        rw [← nI_succ]
        refine ih (v + 1) _ (by omega) ((hO.sI (by simp) _ _).sI (by simp) _ _) h31 (fun u hu i hi => ?_) (fun u hu => ?_) (fun u hu => ?_)
        · rw [gI_sI, if_neg (by decide), gI_sI, if_pos rfl]
          by_cases huv : u = v
          · subst huv; rw [pk_us]; exact hx i hi
          · rw [pk_un huv]; exact hgo u (by omega) i hi
        · rw [gI_sI, if_pos rfl]
          by_cases huv : u = v
          · subst huv; rw [pk_us]
          · rw [pk_un huv]; exact h0 u (by omega)
        · rw [gI_sI, if_pos rfl, pk_un (by omega)]
          exact hrest u (by omega)
      refine rt_if_ne rfl (fun hc => ?_) (fun hc => ?_)
      · refine rt_run 4 rfl ?_
        refine rt_ld v rfl (n := 10) rfl (by omega) ?_
        refine rt_cV (ci := 2) mX2_behind kX3_spreads_33 okX2_behind (isE_s hke) rfl rfl rfl rfl ?_
        refine behind_specA (S := fr v) hke hE' (fun i hi => by rw [hfv]; exact hfr v (by omega) i hi) (fun x hx => ?_)
        exact fin x hx
      · refine rt_run 2 rfl ?_
        refine fin 0 (fun i hi => ?_)
        rw [b_0, nxt_zero]
        intro p hp
        rw [← hfr v (by omega) p (by omega), ← hfv, hc, b_0]
  refine rt_run 2 rfl ?_
  exact loop1 10 0 τ (by omega) (Off.rf _ _) rfl (fun u hu => by omega) (fun u hu => by omega) (fun u _ => rfl)
end
section
/-! what can be reached; Reach.endsFrom -/
/-- a route of n steps leads from the beginning at u to a place at a vertex -/
def Rch (L : SL) (A : AE) (u : Nat) : Nat → Nat → Nat → Prop
  | 0, w, q => w = u ∧ q = 0
  | n + 1, w, q => ∃ st ∈ L, st.2.2.1 = w ∧ (∃ p, Rch L A u n st.1 p ∧ A.1 p q = true) ∧ A.2.1 st.2.1 q = true
def Ans (L : SL) (A : AE) (u v : Nat) : Prop := ∃ m q, Rch L A u m v q ∧ A.2.2.1 q = true
noncomputable def ansB (L : SL) (A : AE) (u v : Nat) : Bool := @decide (Ans L A u v) (Classical.propDecidable _)
theorem ansB_iff {L : SL} {A : AE} {u v : Nat} : ansB L A u v = true ↔ Ans L A u v := by
  unfold ansB
  exact @decide_eq_true_iff _ (Classical.propDecidable _)
/-- bits of the vertices that hold -/
def vb (P : Nat → Bool) : Nat → Int32
  | 0 => 0
  | v + 1 => if P v = true then vb P v ||| (1 <<< (nI v &&& 31)) else vb P v
theorem vb_bt (P : Nat → Bool) (n : Nat) (hn : n ≤ 32) {i : Nat} (hi : i < 32) : bt (vb P n) i = (decide (i < n) && P i) := by
  induction n with
  | zero => simp [vb, b_0]
  | succ n ih =>
    unfold vb
    by_cases hP : P n = true
    · rw [if_pos hP, b_or, ih (by omega), b_bit (by omega) hi]
      by_cases hin : i = n
      · subst hin; simp [hP]
      · have : (i < n + 1) ↔ i < n := by omega
        simp [hin, this]
    · rw [if_neg hP, ih (by omega)]
      by_cases hin : i = n
      · subst hin
        have : P i = false := by cases h : P i; rfl; exact absurd h hP
        simp [this]
      · have : (i < n + 1) ↔ i < n := by omega
        simp [this]
theorem vb_ext {P P' : Nat → Bool} {n : Nat} (h : ∀ v, v < n → P v = P' v) : vb P n = vb P' n := by
  induction n with
  | zero => rfl
  | succ n ih =>
    unfold vb
    rw [h n (by omega), ih (fun v hv => h v (by omega))]
theorem Rch_lt {L : SL} {A : AE} {u m w q : Nat} (hL : StOk L) (hA : AEwf A) (hu : u < 10) (h : Rch L A u m w q) : w < 10 ∧ q < 25 := by
  cases m with
  | zero => obtain ⟨rfl, rfl⟩ := h; exact ⟨hu, by omega⟩
  | succ m =>
    obtain ⟨st, hst, rfl, -, hb⟩ := h
    have h1 := (hL.2 st hst).2.2
    have h2 := (hA.2.2.1 _ _ hb).2
    have := hA.1
    exact ⟨h1, by omega⟩
theorem hit_iff {L : SL} {A : AE} {fr : Nat → Nat → Bool} {w q : Nat} : hit L A fr w q = true ↔ ∃ st ∈ L, st.2.2.1 = w ∧ (∃ p, p < 25 ∧ fr st.1 p = true ∧ A.1 p q = true) ∧ A.2.1 st.2.1 q = true := by
  unfold hit nxt
  simp only [List.any_eq_true, Bool.and_eq_true, decide_eq_true_eq, List.mem_range]
  constructor
  · rintro ⟨st, h1, ⟨h2, p, hp, h3, h4⟩, h5⟩
    exact ⟨st, h1, h2, ⟨p, hp, h3, h4⟩, h5⟩
  · rintro ⟨st, h1, h2, ⟨p, hp, h3, h4⟩, h5⟩
    exact ⟨st, h1, ⟨h2, p, hp, h3, h4⟩, h5⟩
/-- what a search knows between two rounds -/
def SInv (L : SL) (A : AE) (u : Nat) (sn fr : Nat → Nat → Bool) : Prop :=
  (∀ w q, sn w q = true → ∃ m, Rch L A u m w q) ∧ (∀ w q, fr w q = true → sn w q = true) ∧ sn u 0 = true ∧ ∀ v p, sn v p = true → fr v p = false → ∀ st ∈ L, st.1 = v → ∀ q, A.1 p q = true → A.2.1 st.2.1 q = true → sn st.2.2.1 q = true
theorem SInv.next {L : SL} {A : AE} {u : Nat} {sn fr : Nat → Nat → Bool} (hL : StOk L) (hA : AEwf A) (hu : u < 10) (h : SInv L A u sn fr) : SInv L A u (fun w q => sn w q || (hit L A fr w q && !sn w q)) (fun w q => hit L A fr w q && !sn w q) := by
  obtain ⟨h1, h2, h3, h4⟩ := h
  have hh : ∀ w q, hit L A fr w q = true → ∃ m, Rch L A u m w q := by
    intro w q hw
    obtain ⟨st, a1, a2, ⟨p, a3, a4, a5⟩, a6⟩ := hit_iff.mp hw
    obtain ⟨m, hm⟩ := h1 _ _ (h2 _ _ a4)
    exact ⟨m + 1, st, a1, a2, ⟨p, hm, a5⟩, a6⟩
  refine ⟨fun w q hw => ?_, fun w q hw => ?_, ?_, fun v p hv hf st hst e1 q e2 e3 => ?_⟩
  · simp only [Bool.or_eq_true, Bool.and_eq_true] at hw
    rcases hw with hw | hw
    · exact h1 w q hw
    · exact hh w q hw.1
  · simp only [Bool.or_eq_true]
    exact Or.inr hw
  · simp [h3]
  · have hsv : sn v p = true := by
      cases hs : sn v p with
      | true => rfl
      | false =>
        simp only [hs, Bool.false_or] at hv
        simp only [hs] at hf
        rw [hv] at hf
        cases hf
    cases hfv : fr v p with
    | false =>
      have := h4 v p hsv hfv st hst e1 q e2 e3
      simp [this]
    | true =>
      have hp : p < 25 := by
        obtain ⟨m, hm⟩ := h1 v p hsv
        exact (Rch_lt hL hA hu hm).2
      have : hit L A fr st.2.2.1 q = true := hit_iff.mpr ⟨st, hst, rfl, ⟨p, hp, by rw [e1]; exact hfv, e2⟩, e3⟩
      simp only [this, Bool.true_and]
      cases sn st.2.2.1 q <;> rfl
theorem SInv.all {L : SL} {A : AE} {u : Nat} {sn fr : Nat → Nat → Bool} (h : SInv L A u sn fr) (hz : ∀ w q, fr w q = false) (w q : Nat) : sn w q = true ↔ ∃ m, Rch L A u m w q := by
  refine ⟨h.1 w q, ?_⟩
  rintro ⟨m, hm⟩
  induction m generalizing w q with
  | zero => obtain ⟨rfl, rfl⟩ := hm; exact h.2.2.1
  | succ m ih =>
    obtain ⟨st, hst, rfl, ⟨p, hp, e2⟩, e3⟩ := hm
    exact h.2.2.2 st.1 p (ih _ _ hp) (hz _ _) st hst rfl q e2 e3
def prs : List (Nat × Nat) := (List.range 10).flatMap (fun w => (List.range 25).map (fun q => (w, q)))
theorem prs_len : prs.length = 250 := by decide +kernel
theorem prs_mem {w q : Nat} (hw : w < 10) (hq : q < 25) : (w, q) ∈ prs := by
  unfold prs
  rw [List.mem_flatMap]
  exact ⟨w, List.mem_range.mpr hw, List.mem_map.mpr ⟨q, List.mem_range.mpr hq, rfl⟩⟩
def cntS (sn : Nat → Nat → Bool) : Nat := prs.countP (fun x => sn x.1 x.2)
theorem cntS_le (sn : Nat → Nat → Bool) : cntS sn ≤ 250 := by
  rw [← prs_len]
  exact List.countP_le_length
theorem countP_lt {α : Type} {f g : α → Bool} {l : List α} (h : ∀ x ∈ l, f x = true → g x = true) {x : α} (hx : x ∈ l) (h1 : f x = false) (h2 : g x = true) : l.countP f < l.countP g := by
  induction l with
  | nil => cases hx
  | cons a l ih =>
    rw [List.countP_cons, List.countP_cons]
    have hle : l.countP f ≤ l.countP g := List.countP_mono_left (fun y hy => h y (List.mem_cons_of_mem _ hy))
    rcases List.mem_cons.mp hx with rfl | hx
    · rw [h1, h2]; simp; omega
    · have := ih (fun y hy => h y (List.mem_cons_of_mem _ hy)) hx
      have ha := h a List.mem_cons_self
      cases hf : f a with
      | false => simp; omega
      | true => rw [ha hf]; simp; omega
theorem endsFrom_spec {ke ks u : Nat} {A : AE} {L : SL} {τ : Ty} {Q : Option Value → Ty → Prop} (hke : isE ke) (hks : isS ks) (hE : ExIs τ ke A) (hS : StIs τ ks L) (hL : StOk L) (hu : u < 10)
    (h : ∀ τ', Off [31, 32, 33] τ τ' → Q (some (.int (vb (ansB L A u) 10))) τ') : RT mX3_endsFrom none 0 [some (.ref 30), some (.ref ke), some (.ref ks), some (.int (nI u)), none, none, none] [] τ Q := by
  have hA := hE.2.2.2.2
  have fin : ∀ τ' (sn : Nat → Nat → Bool) (x4 : Int32) (x5 : Int32), Off [31, 32, 33] τ τ' → BitsAt τ' 31 sn → (∀ w, w < 10 → ∀ q, q < 32 → (sn w q = true ↔ ∃ m, Rch L A u m w q)) → RT mX3_endsFrom none 63 [some (.ref 30), some (.ref ke), some (.ref ks), some (.int (nI u)), some (.int x4), some (.int x5), none] [] τ' Q := by
    intro τ' sn x4 x5 hO hsn hch
    have hE' := hE.off hO (offE hke)
    have loop : ∀ d v, v + d = 10 → RT mX3_endsFrom none 69 [some (.ref 30), some (.ref ke), some (.ref ks), some (.int (nI u)), some (.int x4), some (.int (vb (ansB L A u) v)), some (.int (nI v))] [] τ' Q := by
      intro d
      induction d with
      | zero =>
        intro v hv
        refine rt_run 2 rfl ?_
        refine rt_ge v 10 rfl (by omega) (by omega) (fun _ => ?_) (fun _ => by omega)
        refine rt_run 1 rfl ?_
        rw [show v = 10 by omega]
        exact rt_iret rfl rfl (h τ' hO)
      | succ d ih =>
        intro v hv
        refine rt_run 2 rfl ?_
        refine rt_ge v 10 rfl (by omega) (by omega) (fun _ => by omega) (fun _ => ?_)
        refine rt_run 4 rfl ?_
        refine rt_ld v rfl (n := 10) rfl (by omega) ?_
        refine rt_cV (ci := 2) mX2_finishes kX3_endsFrom_84 okX2_finishes (isE_s hke) rfl rfl rfl rfl ?_
        refine finishes_spec hke ?_
        have hn := ih (v + 1) (by omega)
        rw [nI_succ] at hn
        by_cases hz : gI τ' 31 v &&& gF τ' ke 2 = 0
        · rw [if_pos hz]
          refine rt_if_eq rfl (fun _ => ?_) (fun hc => absurd rfl hc)
          refine rt_run 2 rfl ?_
          rw [show vb (ansB L A u) (v + 1) = vb (ansB L A u) v by
            have : ansB L A u v = false := by
              rw [Bool.eq_false_iff]
              intro hans
              obtain ⟨m, q, h1, h2⟩ := ansB_iff.mp hans
              have hq := (Rch_lt hL hA hu h1).2
              have := b_zero.mp hz q (by omega)
              rw [b_and, hsn v (by omega) q (by omega), hE'.2.2.2.1 q (by omega), h2, (hch v (by omega) q (by omega)).mpr ⟨m, h1⟩] at this
              cases this
            simp only [vb, this]; simp] at hn
          exact hn
        · rw [if_neg hz]
          refine rt_if_eq rfl (fun hc => absurd hc (by decide)) (fun _ => ?_)
          refine rt_run 8 rfl ?_
          rw [show vb (ansB L A u) (v + 1) = vb (ansB L A u) v ||| (1 <<< (nI v &&& 31)) by
            have : ansB L A u v = true := by
              rw [ansB_iff]
              by_cases hh : ∃ q, q < 32 ∧ bt (gI τ' 31 v &&& gF τ' ke 2) q = true
              · obtain ⟨q, hq, hb⟩ := hh
                rw [b_and, hsn v (by omega) q hq, hE'.2.2.2.1 q hq, Bool.and_eq_true] at hb
                obtain ⟨m, hm⟩ := (hch v (by omega) q hq).mp hb.1
                exact ⟨m, q, hm, hb.2⟩
              · exfalso
                refine hz (b_zero.mpr (fun q hq => ?_))
                cases hb : bt (gI τ' 31 v &&& gF τ' ke 2) q with
                | false => rfl
                | true => exact absurd ⟨q, hq, hb⟩ hh
            simp only [vb, this]; simp] at hn
          exact hn
    refine rt_run 4 rfl ?_
    exact loop 10 0 (by omega)
  have loop : ∀ d n τ' (sn fr : Nat → Nat → Bool), n + d = 251 → Off [31, 32, 33] τ τ' → BitsAt τ' 31 sn → BitsAt τ' 32 fr → SInv L A u sn fr → n + 1 ≤ cntS sn → RT mX3_endsFrom none 36 [some (.ref 30), some (.ref ke), some (.ref ks), some (.int (nI u)), some (.int 1), some (.int (nI n)), none] [] τ' Q := by
    intro d
    induction d with
    | zero =>
      intro n τ' sn fr hn _ _ _ _ hc
      have := cntS_le sn
      omega
    | succ d ih =>
      intro n τ' sn fr hn hO hsn hfr hI hc
      have hE' := hE.off hO (offE hke)
      have hS' := hS.off hO (offS hks)
      refine rt_run 1 rfl ?_
      refine rt_if_eq rfl (fun hc => absurd hc (by decide)) (fun _ => ?_)
      refine rt_run 2 rfl ?_
      refine rt_gt n 250 rfl (by omega) (by omega) (fun _ => by omega) (fun _ => ?_)
      refine rt_run 3 rfl ?_
      refine rt_cV (ci := 3) mX3_spreads kX3_endsFrom_52 okX3_spreads rfl rfl rfl rfl rfl ?_
      refine spreads_spec hke hks hE' hS' hL hsn hfr (fun τ'' r hO2 hs2 hf2 hr => ?_)
      refine rt_run 3 rfl ?_
      have hI2 := hI.next hL hA hu
      rw [← nI_succ]
      rcases hr with ⟨rfl, v, hv, i, hi, hb⟩ | ⟨rfl, hz⟩
      · refine ih (n + 1) τ'' _ _ (by omega) (hO.tr hO2) hs2 hf2 hI2 ?_
        have hi25 : i < 25 := by
          obtain ⟨m, hm⟩ := hI2.1 v i (by simp only [hb, Bool.or_true])
          exact (Rch_lt hL hA hu hm).2
        have : cntS sn < cntS (fun w q => sn w q || (hit L A fr w q && !sn w q)) := by
          refine countP_lt (fun x _ hx => by simp only [hx, Bool.true_or]) (prs_mem hv hi25) ?_ ?_
          · rw [Bool.and_eq_true] at hb
            simpa using hb.2
          · simp only [hb, Bool.or_true]
        omega
      · refine rt_run 1 rfl ?_
        refine rt_if_eq rfl (fun _ => ?_) (fun hc => absurd rfl hc)
        refine fin τ'' _ _ _ (hO.tr hO2) hs2 (fun w hw q hq => ?_)
        refine hI2.all (fun w q => ?_) w q
        by_cases hw : w < 10 ∧ q < 32
        · exact hz w hw.1 q hw.2
        · cases hh : hit L A fr w q with
          | false => rfl
          | true =>
            exfalso
            obtain ⟨st, a1, a2, -, a6⟩ := hit_iff.mp hh
            have h1 := (hL.2 st a1).2.2
            have h2 := (hA.2.2.1 _ _ a6).2
            have := hA.1
            exact hw ⟨by omega, by omega⟩
  refine rt_run 3 rfl ?_
  refine rt_cS mJ7_fill_53178 kX3_endsFrom_5 okJ7_fill_53178 rfl rfl ?_
  refine fill_spec (n := 10) rfl (fun f hf => ?_)
  refine rt_run 3 rfl ?_
  refine rt_cS mJ7_fill_53178 kX3_endsFrom_13 okJ7_fill_53178 rfl rfl ?_
  refine fill_spec (n := 10) rfl (fun g hg => ?_)
  refine rt_run 4 rfl ?_
  refine rt_st u rfl (n := 10) rfl hu ?_
  refine rt_run 4 rfl ?_
  refine rt_st u rfl (n := 10) rfl hu ?_
  refine rt_run 4 rfl ?_
  have hbits : ∀ f : Nat → Int32, (∀ j, j < 10 → f j = 0) → ∀ v, v < 10 → ∀ i, i < 32 → bt (upd f u 1 v) i = decide (v = u ∧ i = 0) := by
    intro f hf v hv i hi
    by_cases hvu : v = u
    · subst hvu; rw [pk_us, b_one hi]; simp
    · rw [pk_un hvu, hf v hv, b_0]; simp [hvu]
  refine loop 251 0 _ (fun w q => decide (w = u ∧ q = 0)) (fun w q => decide (w = u ∧ q = 0)) (by omega) ((((Off.rf _ _).sA (by simp) _).sA (by simp) _).sI (by simp) _ _ |>.sI (by simp) _ _) ?_ ?_ ⟨?_, fun _ _ hh => hh, by simp, ?_⟩ ?_
  · intro v hv i hi
    have e : gI (sI (sI (sA (sA τ 31 f) 32 g) 31 u 1) 32 u 1) 31 = upd f u 1 := rfl
    rw [e]; exact hbits f hf v hv i hi
  · intro v hv i hi
    have e : gI (sI (sI (sA (sA τ 31 f) 32 g) 31 u 1) 32 u 1) 32 = upd g u 1 := rfl
    rw [e]; exact hbits g hg v hv i hi
  · intro w q hh
    have hh : w = u ∧ q = 0 := of_decide_eq_true hh
    exact ⟨0, hh⟩
  · intro v p h1 h2
    rw [h1] at h2
    cases h2
  · have : 0 < cntS (fun w q => decide (w = u ∧ q = 0)) := List.countP_pos_iff.mpr ⟨(u, 0), prs_mem hu (by omega), by simp⟩
    omega
end
section
/-! the shortest routes, from their ends; Shortest.widens, lengthOf -/
/-- n steps lead from a place at a vertex to an end at v -/
def Bk (L : SL) (A : AE) (v : Nat) : Nat → Nat → Nat → Prop
  | 0, w, p => w = v ∧ A.2.2.1 p = true
  | n + 1, w, p => ∃ st ∈ L, st.1 = w ∧ ∃ q, A.1 p q = true ∧ A.2.1 st.2.1 q = true ∧ Bk L A v n st.2.2.1 q
theorem Bk_lt {L : SL} {A : AE} {v m w p : Nat} (hL : StOk L) (hA : AEwf A) (hv : v < 10) (h : Bk L A v m w p) : w < 10 ∧ p < 25 := by
  have hn := hA.1
  cases m with
  | zero => obtain ⟨rfl, h2⟩ := h; have := hA.2.2.2 p h2; exact ⟨hv, by omega⟩
  | succ m =>
    obtain ⟨st, hst, rfl, q, h1, -⟩ := h
    have h3 := (hL.2 st hst).1
    have h4 := (hA.2.1 p q h1).1
    exact ⟨h3, by omega⟩
theorem ahL_bt (f : Nat → Int32) (s : Int32) (m : Nat) (hm : m ≤ 32) {i : Nat} (hi : i < 32) : bt (ahL f s m) i = (decide (i < m) && decide (¬ f i &&& s = 0)) := by
  induction m with
  | zero => simp [ahL, b_0]
  | succ m ih =>
    unfold ahL
    by_cases hz : f m &&& s = 0
    · rw [if_pos hz, ih (by omega)]
      by_cases him : i = m
      · subst him; simp [hz]
      · have : (i < m + 1) ↔ i < m := by omega
        simp [this]
    · rw [if_neg hz, b_or, ih (by omega), b_bit (by omega) hi]
      by_cases him : i = m
      · subst him; simp [hz]
      · have : (i < m + 1) ↔ i < m := by omega
        simp [this, him]
/-- the places from which one comes to a set -/
def ahd (A : AE) (S : Nat → Bool) (p : Nat) : Bool := (List.range 32).any (fun q => A.1 p q && S q)
theorem andNz {x y : Int32} : decide (¬ x &&& y = 0) = (List.range 32).any (fun q => bt x q && bt y q) := by
  rw [Bool.eq_iff_iff, decide_eq_true_iff, List.any_eq_true]
  constructor
  · intro h
    by_cases hh : ∃ q, q < 32 ∧ bt (x &&& y) q = true
    · obtain ⟨q, hq, hb⟩ := hh
      rw [b_and] at hb
      exact ⟨q, List.mem_range.mpr hq, hb⟩
    · exfalso
      refine h (b_zero.mpr (fun q hq => ?_))
      cases hb : bt (x &&& y) q with
      | false => rfl
      | true => exact absurd ⟨q, hq, hb⟩ hh
  · rintro ⟨q, hq, hb⟩ h0
    have := b_zero.mp h0 q (List.mem_range.mp hq)
    rw [b_and] at this
    rw [this] at hb
    cases hb
theorem ahead_bt {τ : Ty} {k : Nat} {A : AE} {set : Int32} {S : Nat → Bool} (hE : ExIs τ k A) (hS : ∀ i, i < 32 → bt set i = S i) {i : Nat} (hi : i < 32) : bt (ahL (gI τ (k + 1)) set (A.2.2.2 + 1)) i = ahd A S i := by
  have hn := hE.2.2.2.2.1
  rw [ahL_bt _ _ _ (by omega) hi, andNz]
  by_cases hin : i < A.2.2.2 + 1
  · simp only [hin, decide_true, Bool.true_and]
    unfold ahd
    refine any_ext (Nat.le_refl _) (fun q hq => ?_) (fun q h1 h2 => by omega)
    rw [hE.2.1 i (by omega) q hq, hS q hq]
  · simp only [hin, decide_false, Bool.false_and]
    symm
    rw [Bool.eq_false_iff]
    intro hh
    obtain ⟨q, hq, hb⟩ := List.any_eq_true.mp hh
    rw [Bool.and_eq_true] at hb
    have := (hE.2.2.2.2.2.1 i q hb.1).1
    omega
def bhit (L : SL) (A : AE) (lf : Nat → Nat → Bool) (w p : Nat) : Bool := L.any (fun st => decide (st.1 = w) && ahd A (fun q => lf st.2.2.1 q && A.2.1 st.2.1 q) p)
theorem bhit_take {L : SL} {A : AE} {lf : Nat → Nat → Bool} {i : Nat} {st : Nat × Nat × Nat × Nat} (h : L[i]? = some st) (w p : Nat) : bhit (L.take (i + 1)) A lf w p = (bhit (L.take i) A lf w p || (decide (st.1 = w) && ahd A (fun q => lf st.2.2.1 q && A.2.1 st.2.1 q) p)) := by
  unfold bhit
  rw [List.take_add_one, h, List.any_append]
  simp
theorem bhit_iff {L : SL} {A : AE} {lf : Nat → Nat → Bool} {w p : Nat} : bhit L A lf w p = true ↔ ∃ st ∈ L, st.1 = w ∧ ∃ q, q < 32 ∧ A.1 p q = true ∧ lf st.2.2.1 q = true ∧ A.2.1 st.2.1 q = true := by
  unfold bhit ahd
  simp only [List.any_eq_true, Bool.and_eq_true, decide_eq_true_eq, List.mem_range]
def RowAt (τ : Ty) (n : Nat) (S : Nat → Nat → Bool) : Prop := ∀ v, v < 10 → ∀ i, i < 32 → bt (gI τ 35 (n * 10 + v)) i = S v i
theorem offE5 {k : Nat} (hk : isE k) : k ∉ [35, 36] ∧ k + 1 ∉ [35, 36] ∧ k + 2 ∉ [35, 36] := by rcases hk with rfl | rfl | rfl | rfl | rfl <;> decide
theorem offS5 {k : Nat} (hk : isS k) : k ∉ [35, 36] ∧ k + 1 ∉ [35, 36] ∧ k + 2 ∉ [35, 36] ∧ k + 3 ∉ [35, 36] ∧ k + 4 ∉ [35, 36] := by rcases hk with rfl | rfl | rfl <;> decide
theorem widens5_spec {ke ks n : Nat} {A : AE} {L : SL} {sn lf : Nat → Nat → Bool} {τ : Ty} {Q : Option Value → Ty → Prop} (hke : isE ke) (hks : isS ks) (hE : ExIs τ ke A) (hS : StIs τ ks L) (hL : StOk L) (hn : n < 250) (hsn : BitsAt τ 36 sn) (hlf : RowAt τ n lf)
    (h : ∀ τ' (r : Int32), Off [35, 36] τ τ' → (∀ j, j < (n + 1) * 10 → gI τ' 35 j = gI τ 35 j) → BitsAt τ' 36 (fun w q => sn w q || (bhit L A lf w q && !sn w q)) → RowAt τ' (n + 1) (fun w q => bhit L A lf w q && !sn w q) → ((r = 1 ∧ ∃ v, v < 10 ∧ ∃ i, i < 32 ∧ (bhit L A lf v i && !sn v i) = true) ∨ (r = 0 ∧ ∀ v, v < 10 → ∀ i, i < 32 → (bhit L A lf v i && !sn v i) = false)) → Q (some (.int r)) τ') :
    RT mX5_widens none 0 [some (.ref 34), some (.ref ke), some (.ref ks), some (.int (nI n)), none, none, none, none, none, none, none] [] τ Q := by
  obtain ⟨s0, s1, s2, s3, s4, b0, b1, b2, b3, q38⟩ := isS_f hks
  obtain ⟨f0, f1, f2, f3, f4, a0, a1, h38⟩ := isE_f hke
  have loop2 : ∀ d i τ' (r : Int32) (x8 x9 x10 : Option Value), i + d = L.length → Off [35, 36] τ τ' → (∀ j, j < (n + 1) * 10 → gI τ' 35 j = gI τ 35 j) → BitsAt τ' 36 (fun w q => sn w q || (bhit (L.take i) A lf w q && !sn w q)) → RowAt τ' (n + 1) (fun w q => bhit (L.take i) A lf w q && !sn w q) → ((r = 1 ∧ ∃ v, v < 10 ∧ ∃ j, j < 32 ∧ (bhit (L.take i) A lf v j && !sn v j) = true) ∨ (r = 0 ∧ ∀ v, v < 10 → ∀ j, j < 32 → (bhit (L.take i) A lf v j && !sn v j) = false)) →
      RT mX5_widens none 46 [some (.ref 34), some (.ref ke), some (.ref ks), some (.int (nI n)), some (.int (nI (n * 10))), some (.int (nI (n * 10 + 10))), some (.int r), some (.int (nI i)), x8, x9, x10] [] τ' Q := by
    intro d
    induction d with
    | zero =>
      intro i τ' r x8 x9 x10 hi hO hlo hse hro hr
      have hS' := hS.off hO (offS5 hks)
      have hl := hL.1
      refine rt_run 2 rfl ?_
      refine rt_getI rfl s4 ?_
      refine rt_ge i L.length rfl (by omega) (by omega) (fun _ => ?_) (fun _ => by omega) rfl hS'.1
      refine rt_run 1 rfl ?_
      rw [List.take_of_length_le (by omega)] at hse hro hr
      exact rt_zret rfl rfl (by rcases hr with hr | hr; exact Or.inr hr.1; exact Or.inl hr.1) (h τ' r hO hlo hse hro hr)
    | succ d ih =>
      intro i τ' r x8 x9 x10 hi hO hlo hse hro hr
      have hS' := hS.off hO (offS5 hks)
      have hE' := hE.off hO (offE5 hke)
      have hl := hL.1
      refine rt_run 2 rfl ?_
      refine rt_getI rfl s4 ?_
      refine rt_ge i L.length rfl (by omega) (by omega) (fun _ => by omega) (fun hlt => ?_) rfl hS'.1
      have hq : L[i]? = some L[i] := List.getElem?_eq_getElem hlt
      obtain ⟨g1, g2, g3, g4⟩ := hS'.2 i _ hq
      obtain ⟨c1, c2, c3⟩ := hL.2 _ (List.getElem_mem hlt)
      refine rt_run 4 rfl ?_
      refine rt_getQ rfl s2 q38 ?_
      refine rt_run 1 rfl ?_
      refine rt_ld i rfl b2 (by omega) ?_
      rw [g3]
      refine rt_run 1 rfl ?_
      refine rt_ld (n * 10 + L[i].2.2.1) rfl (n := 2510) rfl (by omega) ?_ (by rw [nI_add])
      refine rt_run 1 rfl ?_
      refine rt_getQ rfl f1 h38 ?_
      refine rt_run 1 rfl ?_
      refine rt_getQ rfl s1 q38 ?_
      refine rt_run 1 rfl ?_
      refine rt_ld i rfl b1 (by omega) ?_
      refine rt_ld L[i].2.1 rfl a1 c2 ?_ g2
      refine rt_run 3 rfl ?_
      refine rt_getQ rfl s0 q38 ?_
      refine rt_run 1 rfl ?_
      refine rt_ld i rfl b0 (by omega) ?_
      rw [g1]
      refine rt_run 2 rfl ?_
      generalize hinto : gI τ' 35 (n * 10 + L[i].2.2.1) &&& gI τ' (ke + 2) L[i].2.1 = into
      have hib : ∀ q, q < 32 → bt into q = (lf L[i].2.2.1 q && A.2.1 L[i].2.1 q) := by
        intro q hq32
        rw [← hinto, b_and, hlo _ (by omega), hlf _ c3 q hq32, hE'.2.2.1 _ c2 q hq32]
      have rest : ∀ came : Int32, (∀ q, q < 32 → bt came q = (ahd A (fun q => lf L[i].2.2.1 q && A.2.1 L[i].2.1 q) q && !(sn L[i].1 q || (bhit (L.take i) A lf L[i].1 q && !sn L[i].1 q)))) →
          RT mX5_widens none 119 [some (.ref 34), some (.ref ke), some (.ref ks), some (.int (nI n)), some (.int (nI (n * 10))), some (.int (nI (n * 10 + 10))), some (.int r), some (.int (nI i)), some (.int into), some (.int (nI L[i].1)), x10] [.int came] τ' Q := by
        intro came hcb
        refine rt_run 2 rfl ?_
        refine rt_if_eq rfl (fun hc => ?_) (fun hc => ?_)
        · have hz : ∀ w q, q < 32 → (bhit (L.take (i + 1)) A lf w q && !sn w q) = (bhit (L.take i) A lf w q && !sn w q) := by
            intro w q hq32
            rw [bhit_take hq]
            by_cases hw : L[i].1 = w
            · have := hcb q hq32
              rw [hc, b_0, hw] at this
              simp only [hw, decide_true, Bool.true_and]
              revert this
              cases ahd A (fun q => lf L[i].2.2.1 q && A.2.1 L[i].2.1 q) q <;> cases sn w q <;> cases bhit (L.take i) A lf w q <;> simp
            · simp [hw]
          refine rt_run 2 rfl ?_
          rw [← nI_succ]
          refine ih (i + 1) τ' r _ _ _ (by omega) hO hlo (fun v hv q hq32 => ?_) (fun v hv q hq32 => ?_) ?_
          · dsimp only; rw [hz v q hq32]; exact hse v hv q hq32
          · dsimp only; rw [hz v q hq32]; exact hro v hv q hq32
          · rcases hr with ⟨h1, v, hv, j, hj, h2⟩ | ⟨h1, h2⟩
            · exact Or.inl ⟨h1, v, hv, j, hj, by rw [hz v j hj]; exact h2⟩
            · exact Or.inr ⟨h1, fun v hv j hj => by rw [hz v j hj]; exact h2 v hv j hj⟩
        · have hz : ∀ w q, w ≠ L[i].1 → (bhit (L.take (i + 1)) A lf w q && !sn w q) = (bhit (L.take i) A lf w q && !sn w q) := by
            intro w q hw
            rw [bhit_take hq]
            have : ¬ L[i].1 = w := fun e => hw e.symm
            simp [this]
          have hb1 : ∀ q, q < 32 → bt (gI τ' 36 L[i].1 ||| came) q = (sn L[i].1 q || (bhit (L.take (i + 1)) A lf L[i].1 q && !sn L[i].1 q)) := by
            intro q hq32
            rw [b_or, hcb q hq32, hse _ c1 q hq32, bhit_take hq]
            simp only [decide_true, Bool.true_and]
            cases ahd A (fun q => lf L[i].2.2.1 q && A.2.1 L[i].2.1 q) q <;> cases sn L[i].1 q <;> cases bhit (L.take i) A lf L[i].1 q <;> simp
          have hb2 : ∀ q, q < 32 → bt (gI τ' 35 ((n + 1) * 10 + L[i].1) ||| came) q = (bhit (L.take (i + 1)) A lf L[i].1 q && !sn L[i].1 q) := by
            intro q hq32
            rw [b_or, hcb q hq32, hro _ c1 q hq32, bhit_take hq]
            simp only [decide_true, Bool.true_and]
            cases ahd A (fun q => lf L[i].2.2.1 q && A.2.1 L[i].2.1 q) q <;> cases sn L[i].1 q <;> cases bhit (L.take i) A lf L[i].1 q <;> simp
          have hix : nI (n * 10 + 10) + nI L[i].1 = nI ((n + 1) * 10 + L[i].1) := by rw [nI_add]; congr 1; omega
          refine rt_run 4 rfl ?_
          refine rt_ld L[i].1 rfl (n := 10) rfl c1 ?_
          refine rt_run 2 rfl ?_
          refine rt_st L[i].1 rfl (n := 10) rfl c1 ?_
          refine rt_run 6 rfl ?_
          refine rt_ld ((n + 1) * 10 + L[i].1) rfl (n := 2510) rfl (by omega) ?_ hix
          refine rt_run 2 rfl ?_
          refine rt_st ((n + 1) * 10 + L[i].1) rfl (n := 2510) rfl (by omega) ?_ hix
          refine rt_run 4 rfl ?_
          rw [← nI_succ]
          refine ih (i + 1) _ 1 _ _ _ (by omega) ((hO.sI (by simp) _ _).sI (by simp) _ _) (fun j hj => ?_) ?_ ?_ ?_
          · rw [gI_sI, if_pos rfl, pk_un (by omega)]
            exact hlo j hj
          · refine BitsAt.ne ?_ (by decide)
            refine hse.up hb1 (fun v hv => ?_)
            funext q
            rw [hz v q hv]
          · intro v hv q hq32
            rw [gI_sI, if_pos rfl]
            by_cases hvj : v = L[i].1
            · subst hvj; rw [pk_us]; exact hb2 q hq32
            · rw [pk_un (by omega)]
              dsimp only
              rw [hz v q hvj]
              exact hro v hv q hq32
          · left
            refine ⟨rfl, L[i].1, c1, ?_⟩
            have : ∃ q, q < 32 ∧ bt came q = true := by
              by_cases hh : ∃ q, q < 32 ∧ bt came q = true
              · exact hh
              · exfalso
                refine hc (b_zero.mpr (fun q hq32 => ?_))
                cases hb : bt came q with
                | false => rfl
                | true => exact absurd ⟨q, hq32, hb⟩ hh
            obtain ⟨q, hq32, hb⟩ := this
            refine ⟨q, hq32, ?_⟩
            rw [← hb2 q hq32, b_or, hb, Bool.or_true]
      refine rt_if_ne rfl (fun hc => ?_) (fun hc => ?_)
      · refine rt_run 2 rfl ?_
        refine rt_cV (ci := 2) mX2_aheadOf kX5_widens_106 okX2_aheadOf (isE_s hke) rfl rfl rfl rfl ?_
        refine aheadOf_spec hke hE'.1 hE'.2.2.2.2.1 ?_
        refine rt_run 3 rfl ?_
        refine rt_ld L[i].1 rfl (n := 10) rfl c1 ?_
        refine rt_run 3 rfl ?_
        refine rest _ (fun q hq32 => ?_)
        rw [b_and, b_not hq32, ahead_bt hE' hib hq32, hse _ c1 q hq32]
      · refine rt_run 2 rfl ?_
        refine rest 0 (fun q hq32 => ?_)
        rw [b_0]
        have : ahd A (fun q => lf L[i].2.2.1 q && A.2.1 L[i].2.1 q) q = false := by
          rw [Bool.eq_false_iff]
          intro hh
          obtain ⟨x, hx, hb⟩ := List.any_eq_true.mp hh
          dsimp only at hb
          rw [← hib x (List.mem_range.mp hx), hc, b_0] at hb
          simp at hb
        rw [this]; rfl
  have loop1 : ∀ d v τ', v + d = 10 → Off [35, 36] τ τ' → (∀ j, j < (n + 1) * 10 → gI τ' 35 j = gI τ 35 j) → gI τ' 36 = gI τ 36 → (∀ u, u < v → gI τ' 35 ((n + 1) * 10 + u) = 0) →
      RT mX5_widens none 16 [some (.ref 34), some (.ref ke), some (.ref ks), some (.int (nI n)), some (.int (nI (n * 10))), some (.int (nI (n * 10 + 10))), some (.int (nI v)), none, none, none, none] [] τ' Q := by
    intro d
    induction d with
    | zero =>
      intro v τ' hv hO hlo h36 h0
      refine rt_run 2 rfl ?_
      refine rt_ge v 10 rfl (by omega) (by omega) (fun _ => ?_) (fun _ => by omega)
      refine rt_run 4 rfl ?_
      refine loop2 L.length 0 τ' 0 none none none (by omega) hO hlo (fun u hu i hi => ?_) (fun u hu i hi => ?_) (Or.inr ⟨rfl, fun u hu i hi => ?_⟩)
      · rw [h36]; rw [hsn u hu i hi]; simp [bhit]
      · rw [h0 u (by omega), b_0]; simp [bhit]
      · simp [bhit]
    | succ d ih =>
      intro v τ' hv hO hlo h36 h0
      refine rt_run 2 rfl ?_
      refine rt_ge v 10 rfl (by omega) (by omega) (fun _ => by omega) (fun _ => ?_)
      refine rt_run 6 rfl ?_
      refine rt_st ((n + 1) * 10 + v) rfl (n := 2510) rfl (by omega) ?_ (by rw [nI_add]; congr 1; omega)
      refine rt_run 2 rfl ?_
      rw [← nI_succ]
      refine ih (v + 1) _ (by omega) (hO.sI (by simp) _ _) (fun j hj => ?_) h36 (fun u hu => ?_)
      · rw [gI_sI, if_pos rfl, pk_un (by omega)]
        exact hlo j hj
      · rw [gI_sI, if_pos rfl]
        by_cases huv : u = v
        · subst huv; rw [pk_us]
        · rw [pk_un (by omega)]; exact h0 u (by omega)
  refine rt_run 10 rfl ?_
  have := loop1 10 0 τ (by omega) (Off.rf _ _) (fun _ _ => rfl) rfl (fun u hu => by omega)
  have e1 : nI n * 10 = nI (n * 10) := by rw [← pk_mul]; rfl
  have e2 : nI (n * 10) + 10 = nI (n * 10 + 10) := by rw [← nI_add]; rfl
  rw [e1, e2]
  exact this
end
section
/-! levels from the end; Shortest.lengthOf -/
def Lev (L : SL) (A : AE) (v n w p : Nat) : Prop := Bk L A v n w p ∧ ∀ m, m < n → ¬ Bk L A v m w p
noncomputable def levB (L : SL) (A : AE) (v n w p : Nat) : Bool := @decide (Lev L A v n w p) (Classical.propDecidable _)
noncomputable def seeB (L : SL) (A : AE) (v n w p : Nat) : Bool := @decide (∃ m, m ≤ n ∧ Bk L A v m w p) (Classical.propDecidable _)
theorem levB_iff {L : SL} {A : AE} {v n w p : Nat} : levB L A v n w p = true ↔ Lev L A v n w p := @decide_eq_true_iff _ (Classical.propDecidable _)
theorem seeB_iff {L : SL} {A : AE} {v n w p : Nat} : seeB L A v n w p = true ↔ ∃ m, m ≤ n ∧ Bk L A v m w p := @decide_eq_true_iff _ (Classical.propDecidable _)
theorem lev_next {L : SL} {A : AE} {v n : Nat} (hA : AEwf A) (w p : Nat) : (bhit L A (levB L A v n) w p && !seeB L A v n w p) = levB L A v (n + 1) w p := by
  rw [Bool.eq_iff_iff, Bool.and_eq_true, levB_iff, bhit_iff]
  constructor
  · rintro ⟨⟨st, h1, h2, q, hq, h3, h4, h5⟩, h6⟩
    refine ⟨⟨st, h1, h2, q, h3, h5, (levB_iff.mp h4).1⟩, fun m hm hb => ?_⟩
    have : seeB L A v n w p = true := seeB_iff.mpr ⟨m, by omega, hb⟩
    rw [this] at h6
    cases h6
  · rintro ⟨⟨st, h1, h2, q, h3, h5, h4⟩, h6⟩
    refine ⟨⟨st, h1, h2, q, ?_, h3, levB_iff.mpr ⟨h4, fun m hm hb => ?_⟩, h5⟩, ?_⟩
    · have h7 := (hA.2.2.1 _ _ h5).2
      have h8 := hA.1
      omega
    · exact h6 (m + 1) (by omega) ⟨st, h1, h2, q, h3, h5, hb⟩
    · cases hs : seeB L A v n w p with
      | false => rfl
      | true =>
        obtain ⟨m, hm, hb⟩ := seeB_iff.mp hs
        exact absurd hb (h6 m (by omega))
theorem see_next {L : SL} {A : AE} {v n : Nat} (w p : Nat) : (seeB L A v n w p || levB L A v (n + 1) w p) = seeB L A v (n + 1) w p := by
  rw [Bool.eq_iff_iff, Bool.or_eq_true, seeB_iff, seeB_iff, levB_iff]
  constructor
  · rintro (⟨m, hm, hb⟩ | h)
    · exact ⟨m, by omega, hb⟩
    · exact ⟨n + 1, Nat.le_refl _, h.1⟩
  · rintro ⟨m, hm, hb⟩
    by_cases hh : ∃ m', m' ≤ n ∧ Bk L A v m' w p
    · exact Or.inl hh
    · have e : m = n + 1 := by
        by_cases hmn : m ≤ n
        · exact absurd ⟨m, hmn, hb⟩ hh
        · omega
      subst e
      exact Or.inr ⟨hb, fun m' hm' hb' => hh ⟨m', by omega, hb'⟩⟩
theorem Bk_closed {L : SL} {A : AE} {v n : Nat} (h : ∀ w p, ¬ Lev L A v (n + 1) w p) (m w p : Nat) (hb : Bk L A v m w p) : ∃ m', m' ≤ n ∧ Bk L A v m' w p := by
  induction m generalizing w p with
  | zero => exact ⟨0, Nat.zero_le _, hb⟩
  | succ m ih =>
    obtain ⟨st, h1, h2, q, h3, h5, h4⟩ := hb
    obtain ⟨m', hm', hb'⟩ := ih _ _ h4
    have hb2 : Bk L A v (m' + 1) w p := ⟨st, h1, h2, q, h3, h5, hb'⟩
    by_cases hmn : m' + 1 ≤ n
    · exact ⟨m' + 1, hmn, hb2⟩
    · by_cases hh : ∃ m'', m'' ≤ n ∧ Bk L A v m'' w p
      · exact hh
      · exfalso
        have e : m' + 1 = n + 1 := by omega
        rw [e] at hb2
        exact h w p ⟨hb2, fun m'' hm'' hb'' => hh ⟨m'', by omega, hb''⟩⟩
theorem BitsAt.ext {τ : Ty} {k : Nat} {S S' : Nat → Nat → Bool} (h : BitsAt τ k S) (he : ∀ w q, S w q = S' w q) : BitsAt τ k S' := fun v hv i hi => by rw [← he]; exact h v hv i hi
theorem RowAt.ext {τ : Ty} {n : Nat} {S S' : Nat → Nat → Bool} (h : RowAt τ n S) (he : ∀ w q, S w q = S' w q) : RowAt τ n S' := fun v hv i hi => by rw [← he]; exact h v hv i hi
theorem lengthOf_spec {ke ks u v : Nat} {A : AE} {L : SL} {τ : Ty} {Q : Option Value → Ty → Prop} (hke : isE ke) (hks : isS ks) (hE : ExIs τ ke A) (hS : StIs τ ks L) (hL : StOk L) (hu : u < 10) (hv : v < 10)
    (h1 : ∀ τ' n, Off [35, 36] τ τ' → n < 250 → Lev L A v n u 0 → (∀ j, j ≤ n → RowAt τ' j (levB L A v j)) → Q (some (.int (nI n))) τ') (h2 : ∀ τ', Off [35, 36] τ τ' → (∀ m, ¬ Bk L A v m u 0) → Q (some (.int (-1))) τ') :
    RT mX5_lengthOf none 0 [some (.ref 34), some (.ref ke), some (.ref ks), some (.int (nI u)), some (.int (nI v)), none] [] τ Q := by
  obtain ⟨f0, f1, f2, f3, f4, a0, a1, h38⟩ := isE_f hke
  have hA := hE.2.2.2.2
  have loop : ∀ d n τ', n + d = 250 → Off [35, 36] τ τ' → BitsAt τ' 36 (seeB L A v n) → (∀ j, j ≤ n → RowAt τ' j (levB L A v j)) → (n = 0 ∨ n + 1 ≤ cntS (seeB L A v n)) → (∀ m, m < n → ¬ Bk L A v m u 0) →
      RT mX5_lengthOf none 57 [some (.ref 34), some (.ref ke), some (.ref ks), some (.int (nI u)), some (.int (nI v)), some (.int (nI n))] [] τ' Q := by
    intro d
    induction d with
    | zero =>
      intro n τ' hn _ _ _ hc _
      have := cntS_le (seeB L A v n)
      omega
    | succ d ih =>
      intro n τ' hn hO hse hro hc hmin
      have hE' := hE.off hO (offE5 hke)
      have hS' := hS.off hO (offS5 hks)
      refine rt_run 2 rfl ?_
      refine rt_ge n 250 rfl (by omega) (by omega) (fun _ => by omega) (fun _ => ?_)
      refine rt_run 3 rfl ?_
      refine rt_ld u rfl (n := 10) rfl hu ?_
      refine rt_run 2 rfl ?_
      refine rt_if_eq rfl (fun hz => ?_) (fun hz => ?_)
      · have hz0 : seeB L A v n u 0 = false := by
          rw [← hse u hu 0 (by decide)]
          exact b_and1.mp hz
        have hn0 : ∀ m, m ≤ n → ¬ Bk L A v m u 0 := by
          intro m hm hb
          have : seeB L A v n u 0 = true := seeB_iff.mpr ⟨m, hm, hb⟩
          rw [this] at hz0
          cases hz0
        refine rt_run 4 rfl ?_
        refine rt_cV (ci := 5) mX5_widens kX5_lengthOf_84 okX5_widens rfl rfl rfl rfl rfl ?_
        refine widens5_spec hke hks hE' hS' hL (by omega) hse (hro n (Nat.le_refl _)) (fun τ'' r hO2 hlo hs2 hr2 hr => ?_)
        have hs3 : BitsAt τ'' 36 (seeB L A v (n + 1)) := hs2.ext (fun w q => by rw [lev_next hA, see_next])
        have hr3 : RowAt τ'' (n + 1) (levB L A v (n + 1)) := hr2.ext (fun w q => lev_next hA w q)
        rcases hr with ⟨rfl, w, hw, i, hi, hb⟩ | ⟨rfl, hzz⟩
        · refine rt_if_ne rfl (fun _ => ?_) (fun hc => absurd hc (by decide))
          refine rt_run 2 rfl ?_
          rw [← nI_succ]
          have hlev : Lev L A v (n + 1) w i := levB_iff.mp (by rw [← lev_next hA]; exact hb)
          refine ih (n + 1) τ'' (by omega) (hO.tr hO2) hs3 (fun j hj => ?_) (Or.inr ?_) (fun m hm => hn0 m (by omega))
          · by_cases hjn : j = n + 1
            · subst hjn; exact hr3
            · intro x hx q hq
              rw [hlo _ (by omega)]
              exact hro j (by omega) x hx q hq
          · have hi25 := (Bk_lt hL hA hv hlev.1).2
            have hlt : cntS (seeB L A v n) < cntS (seeB L A v (n + 1)) := by
              refine countP_lt (fun x _ hx => by rw [← see_next, hx, Bool.true_or]) (prs_mem hw hi25) ?_ ?_
              · dsimp only
                rw [Bool.eq_false_iff]
                intro hh
                obtain ⟨m, hm, hbk⟩ := seeB_iff.mp hh
                exact hlev.2 m (by omega) hbk
              · exact seeB_iff.mpr ⟨n + 1, Nat.le_refl _, hlev.1⟩
            rcases hc with rfl | hc
            · have : 0 < cntS (seeB L A v 0) := by
                obtain ⟨st, a1, -, q, -, a3, a4⟩ := hlev.1
                have hl4 := Bk_lt hL hA hv a4
                exact List.countP_pos_iff.mpr ⟨(st.2.2.1, q), prs_mem hl4.1 hl4.2, seeB_iff.mpr ⟨0, Nat.le_refl _, a4⟩⟩
              omega
            · omega
        · refine rt_if_ne rfl (fun hc => absurd rfl hc) (fun _ => ?_)
          refine rt_run 1 rfl ?_
          refine rt_iret rfl rfl (h2 τ'' (hO.tr hO2) (fun m hb => ?_))
          obtain ⟨m', hm', hb'⟩ := Bk_closed (n := n) (fun w p hl => by
            have hl4 := Bk_lt hL hA hv hl.1
            have := hzz w hl4.1 p (by omega)
            rw [lev_next hA, levB_iff.mpr hl] at this
            cases this) m u 0 hb
          exact hn0 m' hm' hb'
      · refine rt_run 1 rfl ?_
        have hz0 : seeB L A v n u 0 = true := by
          rw [← hse u hu 0 (by decide)]
          cases hb : bt (gI τ' 36 u) 0 with
          | true => rfl
          | false => exact absurd (b_and1.mpr hb) hz
        obtain ⟨m, hm, hb⟩ := seeB_iff.mp hz0
        have e : m = n := by
          by_cases hmn : m < n
          · exact absurd hb (hmin m hmn)
          · omega
        subst e
        exact rt_iret rfl rfl (h1 τ' m hO (by omega) ⟨hb, hmin⟩ hro)
  have loop0 : ∀ d i τ', i + d = 10 → Off [35, 36] τ τ' → (∀ j, j < 10 → gI τ' 36 j = 0) → (∀ j, j < i → gI τ' 35 j = 0) → RT mX5_lengthOf none 11 [some (.ref 34), some (.ref ke), some (.ref ks), some (.int (nI u)), some (.int (nI v)), some (.int (nI i))] [] τ' Q := by
    intro d
    induction d with
    | zero =>
      intro i τ' hi hO h36 h35
      refine rt_run 2 rfl ?_
      refine rt_ge i 10 rfl (by omega) (by omega) (fun _ => ?_) (fun _ => by omega)
      have hE' := hE.off hO (offE5 hke)
      refine rt_run 4 rfl ?_
      refine rt_getI rfl f2 ?_
      refine rt_st v rfl (n := 10) rfl hv ?_
      refine rt_run 4 rfl ?_
      refine rt_getI rfl f2 ?_
      refine rt_st v rfl (n := 2510) rfl (by omega) ?_
      refine rt_run 2 rfl ?_
      have hla : ∀ w p, (A.2.2.1 p && decide (w = v)) = levB L A v 0 w p := by
        intro w p
        rw [Bool.eq_iff_iff, Bool.and_eq_true, decide_eq_true_eq, levB_iff]
        exact ⟨fun hh => ⟨⟨hh.2, hh.1⟩, fun m hm => by omega⟩, fun hh => ⟨hh.1.2, hh.1.1⟩⟩
      have hla2 : ∀ w p, (A.2.2.1 p && decide (w = v)) = seeB L A v 0 w p := by
        intro w p
        rw [Bool.eq_iff_iff, Bool.and_eq_true, decide_eq_true_eq, seeB_iff]
        refine ⟨fun hh => ⟨0, Nat.le_refl _, hh.2, hh.1⟩, fun hh => ?_⟩
        obtain ⟨m, hm, hb⟩ := hh
        have : m = 0 := by omega
        subst this
        exact ⟨hb.2, hb.1⟩
      refine loop 250 0 _ (by omega) ((hO.sI (by simp) _ _).sI (by simp) _ _) ?_ ?_ (Or.inl rfl) (fun m hm => by omega)
      · refine BitsAt.ext (S := fun w p => A.2.2.1 p && decide (w = v)) (fun w hw q hq => ?_) hla2
        show bt (upd (gI τ' 36) v (gF τ' ke 2) w) q = _
        by_cases hwv : w = v
        · subst hwv; rw [pk_us, hE'.2.2.2.1 q hq]; simp
        · rw [pk_un hwv, h36 w hw, b_0]; simp [hwv]
      · intro j hj
        have : j = 0 := by omega
        subst this
        refine RowAt.ext (S := fun w p => A.2.2.1 p && decide (w = v)) (fun w hw q hq => ?_) hla
        show bt (upd (gI τ' 35) v (gF τ' ke 2) (0 * 10 + w)) q = _
        rw [Nat.zero_mul, Nat.zero_add]
        by_cases hwv : w = v
        · subst hwv; rw [pk_us, hE'.2.2.2.1 q hq]; simp
        · rw [pk_un hwv, h35 w (by omega), b_0]; simp [hwv]
    | succ d ih =>
      intro i τ' hi hO h36 h35
      refine rt_run 2 rfl ?_
      refine rt_ge i 10 rfl (by omega) (by omega) (fun _ => by omega) (fun _ => ?_)
      refine rt_run 4 rfl ?_
      refine rt_st i rfl (n := 2510) rfl (by omega) ?_
      refine rt_run 2 rfl ?_
      rw [← nI_succ]
      refine ih (i + 1) _ (by omega) (hO.sI (by simp) _ _) h36 (fun j hj => ?_)
      rw [gI_sI, if_pos rfl]
      by_cases hji : j = i
      · subst hji; rw [pk_us]
      · rw [pk_un hji]; exact h35 j (by omega)
  refine rt_run 3 rfl ?_
  refine rt_cS mJ7_fill_53178 kX5_lengthOf_5 okJ7_fill_53178 rfl rfl ?_
  refine fill_spec (n := 10) rfl (fun f hf => ?_)
  refine rt_run 2 rfl ?_
  exact loop0 10 0 _ (by omega) ((Off.rf _ _).sA (by simp) _) hf (fun j hj => by omega)
end
section
/-! the first of the shortest routes; Shortest.firstStep, trace -/
theorem Rch_Bk {L : SL} {A : AE} {u v k m w p : Nat} (h1 : Rch L A u k w p) (h2 : Bk L A v m w p) : Bk L A v (k + m) u 0 := by
  induction k generalizing m w p with
  | zero => obtain ⟨rfl, rfl⟩ := h1; rw [Nat.zero_add]; exact h2
  | succ k ih =>
    obtain ⟨st, a1, rfl, ⟨p', a3, a4⟩, a5⟩ := h1
    have := ih (m := m + 1) a3 ⟨st, a1, rfl, p, a4, a5, h2⟩
    rw [show k + 1 + m = k + (m + 1) by omega]
    exact this
/-- step i leads on: from a, with places of S, so that r steps are left behind it -/
def Cnd (L : SL) (A : AE) (v a : Nat) (S : Nat → Bool) (r i : Nat) : Prop := ∃ st, L[i]? = some st ∧ st.1 = a ∧ ∃ q, nxt A S q = true ∧ A.2.1 st.2.1 q = true ∧ Bk L A v r st.2.2.1 q
noncomputable def cndB (L : SL) (A : AE) (v a : Nat) (S : Nat → Bool) (r i : Nat) : Bool := @decide (Cnd L A v a S r i) (Classical.propDecidable _)
theorem cndB_iff {L : SL} {A : AE} {v a : Nat} {S : Nat → Bool} {r i : Nat} : cndB L A v a S r i = true ↔ Cnd L A v a S r i := @decide_eq_true_iff _ (Classical.propDecidable _)
noncomputable def fstI (L : SL) (A : AE) (v a : Nat) (S : Nat → Bool) (r : Nat) : Option Nat := (List.range L.length).find? (fun i => cndB L A v a S r i)
theorem fstI_some {L : SL} {A : AE} {v a : Nat} {S : Nat → Bool} {r i : Nat} (hi : i < L.length) (h1 : Cnd L A v a S r i) (h2 : ∀ j, j < i → ¬ Cnd L A v a S r j) : fstI L A v a S r = some i := by
  unfold fstI
  rw [List.find?_range_eq_some]
  refine ⟨cndB_iff.mpr h1, List.mem_range.mpr hi, fun j hj => ?_⟩
  cases hb : cndB L A v a S r j with
  | false => rfl
  | true => exact absurd (cndB_iff.mp hb) (h2 j hj)
/-- the steps of the first route with r steps left -/
noncomputable def gp (L : SL) (A : AE) (v : Nat) : Nat → Nat → (Nat → Bool) → List Nat
  | 0, _, _ => []
  | r + 1, a, S => match fstI L A v a S r with
    | none => []
    | some i => match L[i]? with
      | none => []
      | some st => i :: gp L A v r st.2.2.1 (fun q => nxt A S q && A.2.1 st.2.1 q)
theorem gp_s {L : SL} {A : AE} {v r a i : Nat} {S : Nat → Bool} {st : Nat × Nat × Nat × Nat} (h1 : fstI L A v a S r = some i) (h2 : L[i]? = some st) : gp L A v (r + 1) a S = i :: gp L A v r st.2.2.1 (fun q => nxt A S q && A.2.1 st.2.1 q) := by
  simp only [gp, h1, h2]
def δ0 : Nat → Bool := fun q => decide (q = 0)
theorem nxt_iff {A : AE} {S : Nat → Bool} {q : Nat} : nxt A S q = true ↔ ∃ p, p < 25 ∧ S p = true ∧ A.1 p q = true := by
  unfold nxt
  simp only [List.any_eq_true, Bool.and_eq_true, List.mem_range]
def CndL (L : SL) (A : AE) (v a : Nat) (S : Nat → Bool) (r i : Nat) : Prop := ∃ st, L[i]? = some st ∧ st.1 = a ∧ ∃ q, nxt A S q = true ∧ A.2.1 st.2.1 q = true ∧ Lev L A v r st.2.2.1 q
theorem firstStep_spec {ke ks a r v : Nat} {set : Int32} {S : Nat → Bool} {A : AE} {L : SL} {τ : Ty} {Q : Option Value → Ty → Prop} (hke : isE ke) (hks : isS ks) (hE : ExIs τ ke A) (hS : StIs τ ks L) (hL : StOk L) (ha : a < 10) (hr : r < 250) (hset : ∀ i, i < 32 → bt set i = S i) (hrow : RowAt τ r (levB L A v r))
    (h1 : ∀ i, i < L.length → CndL L A v a S r i → (∀ j, j < i → ¬ CndL L A v a S r j) → Q (some (.int (nI i))) τ) (h2 : (∀ j, ¬ CndL L A v a S r j) → Q (some (.int (-1))) τ) :
    RT mX5_firstStep none 0 [some (.ref 34), some (.ref ke), some (.ref ks), some (.int (nI a)), some (.int set), some (.int (nI (r * 10))), none, none] [] τ Q := by
  obtain ⟨s0, s1, s2, s3, s4, b0, b1, b2, b3, q38⟩ := isS_f hks
  obtain ⟨f0, f1, f2, f3, f4, a0, a1, h38⟩ := isE_f hke
  have hA := hE.2.2.2.2
  refine rt_run 2 rfl ?_
  refine rt_cV (ci := 2) mX2_behind kX5_firstStep_3 okX2_behind (isE_s hke) rfl rfl rfl rfl ?_
  refine behind_specA (S := S) hke hE hset (fun g hg => ?_)
  have loop : ∀ d i, i + d = L.length → (∀ j, j < i → ¬ CndL L A v a S r j) → RT mX5_firstStep none 11 [some (.ref 34), some (.ref ke), some (.ref ks), some (.int (nI a)), some (.int set), some (.int (nI (r * 10))), some (.int g), some (.int (nI i))] [] τ Q := by
    intro d
    induction d with
    | zero =>
      intro i hi hn
      have hl := hL.1
      refine rt_run 2 rfl ?_
      refine rt_getI rfl s4 ?_
      refine rt_ge i L.length rfl (by omega) (by omega) (fun _ => ?_) (fun _ => by omega) rfl hS.1
      refine rt_run 1 rfl ?_
      refine rt_iret rfl rfl (h2 (fun j hc => ?_))
      obtain ⟨st, hst, -⟩ := id hc
      have := (List.getElem?_eq_some_iff.mp hst).1
      exact hn j (by omega) hc
    | succ d ih =>
      intro i hi hn
      have hl := hL.1
      refine rt_run 2 rfl ?_
      refine rt_getI rfl s4 ?_
      refine rt_ge i L.length rfl (by omega) (by omega) (fun _ => by omega) (fun hlt => ?_) rfl hS.1
      have hq : L[i]? = some L[i] := List.getElem?_eq_getElem hlt
      obtain ⟨g1, g2, g3, g4⟩ := hS.2 i _ hq
      obtain ⟨c1, c2, c3⟩ := hL.2 _ (List.getElem_mem hlt)
      have next : ¬ CndL L A v a S r i → RT mX5_firstStep none 68 [some (.ref 34), some (.ref ke), some (.ref ks), some (.int (nI a)), some (.int set), some (.int (nI (r * 10))), some (.int g), some (.int (nI i))] [] τ Q := by
        intro hne
        refine rt_run 2 rfl ?_
        rw [← nI_succ]
        exact ih (i + 1) (by omega) (fun j hj => by
          by_cases hji : j = i
          · subst hji; exact hne
          · exact hn j (by omega))
      refine rt_run 1 rfl ?_
      refine rt_getQ rfl s0 q38 ?_
      refine rt_run 1 rfl ?_
      refine rt_ld i rfl b0 (by omega) ?_
      refine rt_run 1 rfl ?_
      refine rt_ne L[i].1 a rfl (by omega) (by omega) (fun hc => next (fun hh => ?_)) (fun e1 => ?_) g1
      · obtain ⟨st, e, e2, -⟩ := hh
        rw [hq] at e
        cases e
        exact hc e2
      refine rt_run 2 rfl ?_
      refine rt_getQ rfl f1 h38 ?_
      refine rt_run 1 rfl ?_
      refine rt_getQ rfl s1 q38 ?_
      refine rt_run 1 rfl ?_
      refine rt_ld i rfl b1 (by omega) ?_
      refine rt_ld L[i].2.1 rfl a1 c2 ?_ g2
      refine rt_run 5 rfl ?_
      refine rt_getQ rfl s2 q38 ?_
      refine rt_run 1 rfl ?_
      refine rt_ld i rfl b2 (by omega) ?_
      rw [g3]
      refine rt_run 1 rfl ?_
      refine rt_ld (r * 10 + L[i].2.2.1) rfl (n := 2510) rfl (by omega) ?_ (by rw [nI_add])
      refine rt_run 1 rfl ?_
      have hbits : ∀ q, q < 32 → bt (g &&& gI τ (ke + 2) L[i].2.1 &&& gI τ 35 (r * 10 + L[i].2.2.1)) q = (nxt A S q && A.2.1 L[i].2.1 q && levB L A v r L[i].2.2.1 q) := by
        intro q hq32
        rw [b_and, b_and, hg q hq32, hE.2.2.1 _ c2 q hq32, hrow _ c3 q hq32]
      refine rt_if_eq rfl (fun hc => next (fun hh => ?_)) (fun hc => ?_)
      · obtain ⟨st, e, -, q, h3, h4, h5⟩ := hh
        rw [hq] at e
        cases e
        have h6 := (hA.2.2.1 _ _ h4).2
        have h7 := hA.1
        have := b_zero.mp hc q (by omega)
        rw [hbits q (by omega), h3, h4, levB_iff.mpr h5] at this
        cases this
      · refine rt_run 1 rfl ?_
        refine rt_iret rfl rfl (h1 i hlt ⟨L[i], hq, e1, ?_⟩ hn)
        by_cases hh : ∃ q, q < 32 ∧ bt (g &&& gI τ (ke + 2) L[i].2.1 &&& gI τ 35 (r * 10 + L[i].2.2.1)) q = true
        · obtain ⟨q, hq32, hb⟩ := hh
          rw [hbits q hq32, Bool.and_eq_true, Bool.and_eq_true] at hb
          exact ⟨q, hb.1.1, hb.1.2, levB_iff.mp hb.2⟩
        · exfalso
          refine hc (b_zero.mpr (fun q hq32 => ?_))
          cases hb : bt (g &&& gI τ (ke + 2) L[i].2.1 &&& gI τ 35 (r * 10 + L[i].2.2.1)) q with
          | false => rfl
          | true => exact absurd ⟨q, hq32, hb⟩ hh
  refine rt_run 3 rfl ?_
  exact loop L.length 0 (by omega) (fun j hj => by omega)
theorem offE7 {k : Nat} (hk : isE k) : k ∉ [35, 36, 37] ∧ k + 1 ∉ [35, 36, 37] ∧ k + 2 ∉ [35, 36, 37] := by rcases hk with rfl | rfl | rfl | rfl | rfl <;> decide
theorem offS7 {k : Nat} (hk : isS k) : k ∉ [35, 36, 37] ∧ k + 1 ∉ [35, 36, 37] ∧ k + 2 ∉ [35, 36, 37] ∧ k + 3 ∉ [35, 36, 37] ∧ k + 4 ∉ [35, 36, 37] := by rcases hk with rfl | rfl | rfl <;> decide
theorem trace_spec {ke ks u v : Nat} {A : AE} {L : SL} {τ : Ty} {Q : Option Value → Ty → Prop} (hke : isE ke) (hks : isS ks) (hE : ExIs τ ke A) (hS : StIs τ ks L) (hL : StOk L) (hu : u < 10) (hv : v < 10)
    (h1 : ∀ τ' n, Off [35, 36, 37] τ τ' → n < 250 → Lev L A v n u 0 → (gp L A v n u δ0).length = n → (∀ j i, (gp L A v n u δ0)[j]? = some i → gI τ' 37 j = nI i ∧ i < L.length) → Q (some (.int (nI n))) τ') (h2 : ∀ τ', Off [35, 36, 37] τ τ' → (∀ m, ¬ Bk L A v m u 0) → Q (some (.int (-1))) τ') :
    RT mX5_trace none 0 [some (.ref 34), some (.ref ke), some (.ref ks), some (.int (nI u)), some (.int (nI v)), none, none, none, none, none] [] τ Q := by
  obtain ⟨s0, s1, s2, s3, s4, b0, b1, b2, b3, q38⟩ := isS_f hks
  have hA := hE.2.2.2.2
  refine rt_run 5 rfl ?_
  refine rt_cV (ci := 5) mX5_lengthOf kX5_trace_6 okX5_lengthOf rfl rfl rfl rfl rfl ?_
  refine lengthOf_spec hke hks hE hS hL hu hv (fun τ1 n hO1 hn hlev hrows => ?_) (fun τ1 hO1 hno => ?_)
  · have loop : ∀ d k τ' (a : Nat) (set : Int32) (S : Nat → Bool) (pre : List Nat) (x9 : Option Value), k + d = n → Off [37] τ1 τ' → a < 10 → (∀ i, i < 32 → bt set i = S i) → pre.length = k → gp L A v n u δ0 = pre ++ gp L A v d a S → (∀ j i, pre[j]? = some i → gI τ' 37 j = nI i ∧ i < L.length) → (∀ p, S p = true → Rch L A u k a p) → (∃ p, S p = true ∧ Bk L A v d a p) →
        RT mX5_trace none 20 [some (.ref 34), some (.ref ke), some (.ref ks), some (.int (nI u)), some (.int (nI v)), some (.int (nI n)), some (.int (nI a)), some (.int set), some (.int (nI k)), x9] [] τ' Q := by
      intro d
      induction d with
      | zero =>
        intro k τ' a set S pre x9 hk hO ha hset hpre hgp hpath hrch hex
        refine rt_run 2 rfl ?_
        refine rt_ge k n rfl (by omega) (by omega) (fun _ => ?_) (fun _ => by omega)
        refine rt_run 1 rfl ?_
        have hgp' : gp L A v n u δ0 = pre := by rw [hgp]; simp [gp]
        refine rt_iret rfl rfl (h1 τ' n ((hO1.up (by simp)).tr (hO.up (by simp))) hn hlev (by rw [hgp']; omega) (fun j i hji => ?_))
        rw [hgp'] at hji
        exact hpath j i hji
      | succ d ih =>
        intro k τ' a set S pre x9 hk hO ha hset hpre hgp hpath hrch hex
        have hO' : Off [35, 36, 37] τ τ' := (hO1.up (by simp)).tr (hO.up (by simp))
        have hE' := hE.off hO' (offE7 hke)
        have hS' := hS.off hO' (offS7 hks)
        refine rt_run 2 rfl ?_
        refine rt_ge k n rfl (by omega) (by omega) (fun _ => by omega) (fun _ => ?_)
        refine rt_run 12 rfl ?_
        rw [show (nI n - nI k - 1) * 10 = nI (d * 10) by
          rw [pk_sub (by omega), show n - k = d + 1 by omega, nI_pred, ← pk_mul]; rfl]
        have hiff : ∀ i, CndL L A v a S d i ↔ Cnd L A v a S d i := by
          intro i
          constructor
          · rintro ⟨st, e1, e2, q, e3, e4, e5⟩
            exact ⟨st, e1, e2, q, e3, e4, e5.1⟩
          · rintro ⟨st, e1, e2, q, e3, e4, e5⟩
            refine ⟨st, e1, e2, q, e3, e4, e5, fun m hm hb => ?_⟩
            obtain ⟨p, -, hp, hpq⟩ := nxt_iff.mp e3
            have hr := hrch p hp
            rw [← e2] at hr
            have : Rch L A u (k + 1) st.2.2.1 q := ⟨st, List.mem_of_getElem? e1, rfl, ⟨p, hr, hpq⟩, e4⟩
            exact hlev.2 (k + 1 + m) (by omega) (Rch_Bk this hb)
        refine rt_cV (ci := 5) mX5_firstStep kX5_trace_44 okX5_firstStep rfl rfl rfl rfl rfl ?_
        refine firstStep_spec (v := v) hke hks hE' hS' hL ha (by omega) hset (fun w hw q hq => by rw [(hO.1 35 (by decide)).1]; exact hrows d (by omega) w hw q hq) (fun i hi hc hn2 => ?_) (fun hno => ?_)
        · have hfst := fstI_some hi ((hiff i).mp hc) (fun j hj hh => hn2 j hj ((hiff j).mpr hh))
          have hq : L[i]? = some L[i] := List.getElem?_eq_getElem hi
          obtain ⟨g1, g2, g3, g4⟩ := hS'.2 i _ hq
          obtain ⟨c1, c2, c3⟩ := hL.2 _ (List.getElem_mem hi)
          have hl := hL.1
          refine rt_run 3 rfl ?_
          refine rt_ic_ne rfl (fun _ => ?_) (fun hc => ?_)
          · refine rt_run 4 rfl ?_
            refine rt_st k rfl (n := 250) rfl (by omega) ?_
            refine rt_run 3 rfl ?_
            refine rt_getQ rfl s1 q38 ?_
            refine rt_run 1 rfl ?_
            refine rt_ld i rfl b1 (by omega) ?_
            have hs2 : ∀ {τ0 : Ty} (x : Int32), gI (sI τ0 37 k x) (ks + 2) = gI τ0 (ks + 2) := by
              intro τ0 x
              rw [gI_sI, if_neg (by rcases hks with rfl | rfl | rfl <;> decide)]
            have hs3 : ∀ {τ0 : Ty} (x : Int32), gI (sI τ0 37 k x) (ks + 3) = gI τ0 (ks + 3) := by
              intro τ0 x
              rw [gI_sI, if_neg (by rcases hks with rfl | rfl | rfl <;> decide)]
            rw [hs2, g2]
            have hOk : Off [37] τ' (sI τ' 37 k (nI i)) := (Off.rf _ _).sI (by simp) _ _
            have hE2 := hE'.off (hOk.up (ks' := [35, 36, 37]) (by simp)) (offE7 hke)
            refine rt_cV (ci := 2) mX2_after kX5_trace_76 okX2_after (isE_s hke) rfl rfl rfl rfl ?_
            refine after_spec hke hE2.1 hE2.2.2.2.2.1 c2 ?_
            refine rt_run 2 rfl ?_
            refine rt_getQ rfl s2 q38 ?_
            refine rt_run 1 rfl ?_
            refine rt_ld i rfl b2 (by omega) ?_
            rw [hs3, g3]
            refine rt_run 3 rfl ?_
            rw [← nI_succ]
            refine ih (k + 1) _ L[i].2.2.1 _ (fun q => nxt A S q && A.2.1 L[i].2.1 q) (pre ++ [i]) _ (by omega) (hO.tr hOk) c3 (fun q hq32 => ?_) (by rw [List.length_append, hpre]; rfl) ?_ (fun j x hjx => ?_) (fun p hp => ?_) ?_
            · rw [b_and, behind_bt hE2 hset hq32, hE2.2.2.1 _ c2 q hq32]
            · rw [hgp, gp_s hfst hq, List.append_assoc]; rfl
            · rcases getApp hjx with ⟨hj, hjx⟩ | ⟨rfl, rfl⟩
              · obtain ⟨e1, e2⟩ := hpath j x hjx
                refine ⟨?_, e2⟩
                rw [gI_sI, if_pos rfl, pk_un (by omega)]
                exact e1
              · refine ⟨?_, hi⟩
                rw [gI_sI, if_pos rfl, hpre, pk_us]
            · rw [Bool.and_eq_true] at hp
              obtain ⟨p', -, hp', hpq⟩ := nxt_iff.mp hp.1
              obtain ⟨st, e1, e2, -⟩ := hc
              rw [hq] at e1
              cases e1
              exact ⟨L[i], List.getElem_mem hi, rfl, ⟨p', by rw [e2]; exact hrch p' hp', hpq⟩, hp.2⟩
            · obtain ⟨st, e1, e2, q, e3, e4, e5⟩ := hc
              rw [hq] at e1
              cases e1
              exact ⟨q, by rw [e3, e4]; rfl, e5.1⟩
          · exfalso
            have h9 : (nI i).toInt = (i : Int) := nI_toInt (by omega)
            rw [hc] at h9
            have h10 : (-1 : Int32).toInt = -1 := by decide
            omega
        · exfalso
          obtain ⟨p, hp, st, e1, e2, q, e3, e4, e5⟩ := hex
          obtain ⟨i, hi⟩ := List.getElem?_of_mem e1
          refine hno i ((hiff i).mpr ⟨st, hi, e2, q, nxt_iff.mpr ⟨p, ?_, hp, e3⟩, e4, e5⟩)
          exact (Rch_lt hL hA hu (hrch p hp)).2
    refine rt_run 7 rfl ?_
    refine loop n 0 τ1 u 1 δ0 [] none (by omega) (Off.rf _ _) hu (fun i hi => by rw [b_one hi]; rfl) rfl rfl (fun j i hji => by simp at hji) (fun p hp => ⟨rfl, of_decide_eq_true hp⟩) ⟨0, rfl, hlev.1⟩
  · refine rt_run 9 rfl ?_
    refine rt_ic_ge rfl (fun _ => ?_) (fun hc => absurd (by decide) hc)
    refine rt_run 1 rfl ?_
    exact rt_iret rfl rfl (h2 τ1 (hO1.up (by simp)) hno)
end
section
/-! Table: keys numbered as they come -/
theorem hs_ex (x : Int64) : ∃ n, n < 1024 ∧ (x.toUInt64 >>> ((54 : Int32).toInt64.toUInt64 &&& Int64.toUInt64 63)).toInt64.toInt32 = nI n := by
  have e : ((54 : Int32).toInt64.toUInt64 &&& Int64.toUInt64 63) = 54 := by decide +kernel
  rw [e]
  refine ⟨(x.toUInt64 >>> 54).toNat, ?_, ?_⟩
  · rw [UInt64.toNat_shiftRight]
    have h1 : x.toUInt64.toNat < 18446744073709551616 := x.toUInt64.toNat_lt
    have h2 : (54 : UInt64).toNat % 64 = 54 := by decide
    rw [h2, Nat.shiftRight_eq_div_pow]
    omega
  · have h3 : (x.toUInt64 >>> 54).toInt64 = lN (x.toUInt64 >>> 54).toNat := by
      apply Int64.toBitVec_inj.mp
      show (x.toUInt64 >>> 54).toBitVec = BitVec.ofNat 64 _
      apply BitVec.eq_of_toNat_eq
      rw [BitVec.toNat_ofNat]
      exact (Nat.mod_eq_of_lt (x.toUInt64 >>> 54).toNat_lt).symm
    rw [h3, lN_i]
noncomputable def hsh (key : Int64) : Nat := (hs_ex (key * -7046029254386353131)).choose
theorem hsh_lt (key : Int64) : hsh key < 1024 := (hs_ex (key * -7046029254386353131)).choose_spec.1
theorem hsh_eq (key : Int64) : ((key * -7046029254386353131).toUInt64 >>> ((54 : Int32).toInt64.toUInt64 &&& Int64.toUInt64 63)).toInt64.toInt32 = nI (hsh key) := (hs_ex (key * -7046029254386353131)).choose_spec.2
def TabIs (τ : Ty) (k : Nat) (K : List Int64) (lim : Nat) : Prop :=
  gF τ k 2 = nI K.length ∧ gF τ k 3 = nI lim ∧ K.length ≤ lim ∧ lim ≤ 400 ∧ K.Nodup ∧ (∀ i x, K[i]? = some x → gL τ (k + 1) i = x) ∧
  (List.range 1024).countP (fun s => decide (¬ gI τ (k + 2) s = 0)) = K.length ∧ (∀ s, s < 1024 → ¬ gI τ (k + 2) s = 0 → ∃ j, j < K.length ∧ gI τ (k + 2) s = nI (j + 1)) ∧
  ∀ j x, K[j]? = some x → ∃ t, t < 1024 ∧ gI τ (k + 2) ((hsh x + t) % 1024) = nI (j + 1) ∧ ∀ t', t' < t → ¬ gI τ (k + 2) ((hsh x + t') % 1024) = 0
abbrev kT (k : Nat) : List Nat := [k, k + 1, k + 2]
theorem TabIs.off {ks : List Nat} {τ τ' : Ty} {k : Nat} {K : List Int64} {lim : Nat} (h : TabIs τ k K lim) (ho : Off ks τ τ') (h1 : k ∉ ks ∧ k + 1 ∉ ks ∧ k + 2 ∉ ks) : TabIs τ' k K lim := by
  unfold TabIs at *
  rw [(ho.1 k h1.1).2.2, (ho.1 _ h1.2.1).2.1, (ho.1 _ h1.2.2).1]
  exact h
theorem countP_upd {f g : Nat → Bool} {l : List Nat} {s : Nat} (hn : l.Nodup) (hs : s ∈ l) (h0 : f s = false) (h1 : g s = true) (h2 : ∀ x, x ≠ s → g x = f x) : l.countP g = l.countP f + 1 := by
  induction l with
  | nil => cases hs
  | cons a l ih =>
    rw [List.countP_cons, List.countP_cons]
    rw [List.nodup_cons] at hn
    rcases List.mem_cons.mp hs with rfl | hs
    · rw [h0, h1]
      have : l.countP g = l.countP f := List.countP_congr (fun x hx => by rw [h2 x (fun e => hn.1 (e ▸ hx))])
      simp [this]
    · have hne : a ≠ s := fun e => hn.1 (e ▸ hs)
      rw [ih hn.2 hs, h2 a hne]
      omega
set_option maxRecDepth 20000 in
theorem numberOf_spec {k lim : Nat} {K : List Int64} {key : Int64} {τ : Ty} {Q : Option Value → Ty → Prop} (hk : isT k) (hT : TabIs τ k K lim)
    (h1 : ∀ j, K[j]? = some key → Q (some (.int (nI j))) τ) (h2 : key ∉ K → lim ≤ K.length → Q (some (.int (-1))) τ)
    (h3 : key ∉ K → K.length < lim → ∀ τ', Off (kT k) τ τ' → TabIs τ' k (K ++ [key]) lim → Q (some (.int (nI K.length))) τ') :
    RT mX8_numberOf none 0 [some (.ref k), some (.long key), none, none, none, none] [] τ Q := by
  obtain ⟨f0, f1, f2, f3, a0, a1, h38⟩ := isT_f hk
  obtain ⟨t1, t2, t3, t4, t5, t6, t7, t8, t9⟩ := hT
  have hl := hsh_lt key
  -- the first place that is free or holds the key
  have hz : ∃ t, gI τ (k + 2) ((hsh key + t) % 1024) = 0 := by
    by_cases hh : ∃ s, s < 1024 ∧ gI τ (k + 2) s = 0
    · obtain ⟨s, hs, h0⟩ := hh
      refine ⟨(s + 1024 - hsh key), ?_⟩
      rw [show hsh key + (s + 1024 - hsh key) = s + 1024 by omega, Nat.add_mod_right, Nat.mod_eq_of_lt hs]
      exact h0
    · exfalso
      have : (List.range 1024).countP (fun s => decide (¬ gI τ (k + 2) s = 0)) = 1024 := by
        conv => rhs; rw [show 1024 = (List.range 1024).length by rw [List.length_range]]
        rw [List.countP_eq_length]
        intro s hs
        exact decide_eq_true (fun h0 => hh ⟨s, List.mem_range.mp hs, h0⟩)
      omega
  have hP : ∃ t, (gI τ (k + 2) ((hsh key + t) % 1024) = 0 ∨ ∃ j, K[j]? = some key ∧ gI τ (k + 2) ((hsh key + t) % 1024) = nI (j + 1)) := by
    obtain ⟨t, ht⟩ := hz
    exact ⟨t, Or.inl ht⟩
  obtain ⟨T, hT0, hTm⟩ := pk_least _ hP
  have hT1024 : T < 1024 := by
    by_cases hlt : T < 1024
    · exact hlt
    · exfalso
      refine hTm (T - 1024) (by omega) ?_
      rw [show (hsh key + (T - 1024)) % 1024 = (hsh key + T) % 1024 by omega]
      exact hT0
  have loop : ∀ d t (x5 : Option Value), t + d = T → RT mX8_numberOf none 13 [some (.ref k), some (.long key), none, some (.int (nI ((hsh key + t) % 1024))), some (.int (nI t)), x5] [] τ Q := by
    intro d
    induction d with
    | zero =>
      intro t x5 ht
      have ht : t = T := by omega
      subst ht
      refine rt_run 2 rfl ?_
      refine rt_ge t 1024 rfl (by omega) (by omega) (fun _ => by omega) (fun _ => ?_)
      refine rt_run 1 rfl ?_
      refine rt_getQ rfl f1 h38 ?_
      refine rt_run 1 rfl ?_
      refine rt_ld ((hsh key + t) % 1024) rfl a1 (by omega) ?_
      rcases hT0 with h0 | ⟨j, hj, h0⟩
      · -- free
        have hnin : key ∉ K := by
          intro hin
          obtain ⟨j, hj⟩ := List.getElem?_of_mem hin
          obtain ⟨t', ht', g1, g2⟩ := t9 j key hj
          have hj1 := (List.getElem?_eq_some_iff.mp hj).1
          by_cases hlt : t' < t
          · exact hTm t' hlt (Or.inr ⟨j, hj, g1⟩)
          · by_cases heq : t' = t
            · subst heq
              rw [h0] at g1
              exact nI_ne0 (by omega) (by omega) g1.symm
            · exact g2 t (by omega) h0
        rw [h0]
        refine rt_run 2 rfl ?_
        refine rt_if_eq rfl (fun _ => ?_) (fun hc => absurd rfl hc)
        refine rt_run 1 rfl ?_
        refine rt_if_ne rfl (fun hc => absurd rfl hc) (fun _ => ?_)
        refine rt_run 1 rfl ?_
        refine rt_getI rfl f2 ?_
        refine rt_run 1 rfl ?_
        refine rt_getI rfl f3 ?_
        refine rt_lt K.length lim rfl (by omega) (by omega) (fun hlt => ?_) (fun hge => ?_) t1 t2
        · refine rt_run 1 rfl ?_
          refine rt_if_ne rfl (fun hc => absurd rfl hc) (fun _ => ?_)
          refine rt_run 1 rfl ?_
          refine rt_getQ rfl f0 h38 ?_
          refine rt_run 1 rfl ?_
          refine rt_getI rfl f2 ?_
          refine rt_run 1 rfl ?_
          refine rt_stL K.length rfl a0 (by omega) ?_ t1
          refine rt_run 2 rfl ?_
          refine rt_getI rfl f2 ?_
          refine rt_run 2 rfl ?_
          refine rt_putI rfl f2 rfl ?_
          rw [gF_sL, t1, ← nI_succ]
          refine rt_run 1 rfl ?_
          refine rt_getQ rfl f1 h38 ?_
          refine rt_run 2 rfl ?_
          refine rt_getI rfl f2 ?_
          have e2 : gF (sF (sL τ (k + 1) K.length key) k 2 (nI (K.length + 1))) k 2 = nI (K.length + 1) := by rw [gF_sF, if_pos rfl, pk_us]
          rw [e2]
          refine rt_st ((hsh key + t) % 1024) rfl a1 (by omega) ?_
          refine rt_run 1 rfl ?_
          refine rt_getI rfl f2 ?_
          refine rt_run 2 rfl ?_
          have e3 : gF (sI (sF (sL τ (k + 1) K.length key) k 2 (nI (K.length + 1))) (k + 2) ((hsh key + t) % 1024) (nI (K.length + 1))) k 2 = nI (K.length + 1) := e2
          rw [e3, nI_pred]
          refine rt_iret rfl rfl (h3 hnin hlt _ ((((Off.rf _ _).sL (by simp) _ _).sF (by simp) _ _).sI (by simp) _ _) ?_)
          have eI : gI (sI (sF (sL τ (k + 1) K.length key) k 2 (nI (K.length + 1))) (k + 2) ((hsh key + t) % 1024) (nI (K.length + 1))) (k + 2) = upd (gI τ (k + 2)) ((hsh key + t) % 1024) (nI (K.length + 1)) := by rw [gI_sI, if_pos rfl]; rfl
          have eL : gL (sI (sF (sL τ (k + 1) K.length key) k 2 (nI (K.length + 1))) (k + 2) ((hsh key + t) % 1024) (nI (K.length + 1))) (k + 1) = vp_updL (gL τ (k + 1)) K.length key := by rw [gL_sI, gL_sF, gL_sL, if_pos rfl]
          have hnz : ¬ nI (K.length + 1) = 0 := nI_ne0 (by omega) (by omega)
          refine ⟨by rw [List.length_append]; exact e3, ?_, by rw [List.length_append]; exact hlt, t4, ?_, fun i x hx => ?_, ?_, fun s hs hne => ?_, fun j x hx => ?_⟩
          · show gF (sF (sL τ (k + 1) K.length key) k 2 (nI (K.length + 1))) k 3 = nI lim
            rw [gF_sF, if_pos rfl, pk_un (by decide)]
            exact t2
          · rw [List.nodup_append]
            refine ⟨t5, by simp, fun a ha b hb => ?_⟩
            simp at hb
            subst hb
            exact fun e => hnin (e ▸ ha)
          · rw [eL]
            rcases getApp hx with ⟨hi, hx⟩ | ⟨rfl, rfl⟩
            · rw [pk_uLn (by omega)]; exact t6 i x hx
            · exact pk_uLs
          · have hnz' : ¬ upd (gI τ (k + 2)) ((hsh key + t) % 1024) (nI (K.length + 1)) ((hsh key + t) % 1024) = 0 := by rw [pk_us]; exact hnz
            have hcu := countP_upd (f := fun s => decide (¬ gI τ (k + 2) s = 0)) (g := fun s => decide (¬ upd (gI τ (k + 2)) ((hsh key + t) % 1024) (nI (K.length + 1)) s = 0)) List.nodup_range (List.mem_range.mpr (show (hsh key + t) % 1024 < 1024 by omega)) (by simp [h0]) (decide_eq_true hnz') (fun s hs => by simp only [pk_un hs])
            rw [eI, List.length_append, hcu, t7]
            rfl
          · rw [eI] at hne ⊢
            rw [List.length_append]
            by_cases hsp : s = (hsh key + t) % 1024
            · subst hsp
              exact ⟨K.length, by simp, pk_us⟩
            · rw [pk_un hsp] at hne ⊢
              obtain ⟨j, hj, hj2⟩ := t8 s hs hne
              exact ⟨j, by simp; omega, hj2⟩
          · rw [eI]
            have keepnz : ∀ s, ¬ gI τ (k + 2) s = 0 → ¬ upd (gI τ (k + 2)) ((hsh key + t) % 1024) (nI (K.length + 1)) s = 0 := by
              intro s hs
              by_cases hsp : s = (hsh key + t) % 1024
              · subst hsp; rw [pk_us]; exact hnz
              · rw [pk_un hsp]; exact hs
            rcases getApp hx with ⟨hi, hx⟩ | ⟨rfl, rfl⟩
            · obtain ⟨t', ht', g1, g2⟩ := t9 j x hx
              refine ⟨t', ht', ?_, fun t'' ht'' => keepnz _ (g2 t'' ht'')⟩
              rw [pk_un]
              · exact g1
              · intro e
                rw [e, h0] at g1
                exact nI_ne0 (by omega) (by omega) g1.symm
            · refine ⟨t, hT1024, pk_us, fun t'' ht'' => keepnz _ (fun e => hTm t'' ht'' (Or.inl e))⟩
        · refine rt_run 1 rfl ?_
          exact rt_iret rfl rfl (h2 hnin hge)
      · have hj1 := (List.getElem?_eq_some_iff.mp hj).1
        rw [h0]
        refine rt_run 2 rfl ?_
        refine rt_if_eq rfl (fun hc => absurd hc (nI_ne0 (by omega) (by omega))) (fun _ => ?_)
        refine rt_run 1 rfl ?_
        refine rt_getQ rfl f0 h38 ?_
        refine rt_run 3 rfl ?_
        refine rt_ldL j rfl a0 (by omega) ?_ (nI_pred j)
        rw [t6 j key hj]
        refine rt_run 2 rfl ?_
        refine rt_if_ne rfl (fun hc => absurd (by simp [lg_cmp]) hc) (fun _ => ?_)
        refine rt_run 3 rfl ?_
        rw [nI_pred]
        exact rt_iret rfl rfl (h1 j hj)
    | succ d ih =>
      intro t x5 ht
      have hnot := hTm t (by omega)
      have hne : ¬ gI τ (k + 2) ((hsh key + t) % 1024) = 0 := fun e => hnot (Or.inl e)
      obtain ⟨j, hj, hj2⟩ := t8 _ (by omega) hne
      have hkj : K[j]? = some K[j] := List.getElem?_eq_getElem hj
      have hkne : K[j] ≠ key := fun e => hnot (Or.inr ⟨j, by rw [hkj, e], hj2⟩)
      refine rt_run 2 rfl ?_
      refine rt_ge t 1024 rfl (by omega) (by omega) (fun _ => by omega) (fun _ => ?_)
      refine rt_run 1 rfl ?_
      refine rt_getQ rfl f1 h38 ?_
      refine rt_run 1 rfl ?_
      refine rt_ld ((hsh key + t) % 1024) rfl a1 (by omega) ?_
      rw [hj2]
      refine rt_run 2 rfl ?_
      refine rt_if_eq rfl (fun hc => absurd hc (nI_ne0 (by omega) (by omega))) (fun _ => ?_)
      refine rt_run 1 rfl ?_
      refine rt_getQ rfl f0 h38 ?_
      refine rt_run 3 rfl ?_
      refine rt_ldL j rfl a0 (by omega) ?_ (nI_pred j)
      rw [t6 j _ hkj]
      refine rt_run 2 rfl ?_
      have hcmp : ¬ lg_cmp K[j] key = 0 := by
        unfold lg_cmp
        split
        · decide
        · first | decide | (rw [if_neg hkne]; decide)
      refine rt_if_ne rfl (fun _ => ?_) (fun hc => absurd hc hcmp)
      refine rt_run 1 rfl ?_
      refine rt_if_ne rfl (fun _ => ?_) (fun hc => absurd hc (nI_ne0 (by omega) (by omega)))
      refine rt_run 1 rfl ?_
      refine rt_if_ne rfl (fun _ => ?_) (fun hc => absurd hc (nI_ne0 (by omega) (by omega)))
      refine rt_run 8 rfl ?_
      have e1 : (nI ((hsh key + t) % 1024) + 1) &&& 1023 = nI ((hsh key + (t + 1)) % 1024) := by
        have e2 : ((hsh key + t) % 1024 + 1) % 2 ^ 10 = (hsh key + (t + 1)) % 1024 := by
          rw [show (2 : Nat) ^ 10 = 1024 by decide]
          omega
        rw [nI_1, pk_andN (by omega) 10 (by decide), e2]
      rw [e1, ← nI_succ]
      exact ih (t + 1) _ (by omega)
  refine rt_run 9 rfl ?_
  have := loop T 0 none (by omega)
  rw [Nat.add_zero, Nat.mod_eq_of_lt hl, ← hsh_eq] at this
  exact this
theorem reset_spec {k l : Nat} {τ : Ty} {Q : Option Value → Ty → Prop} (hk : isT k) (hl : l ≤ 400) (h : ∀ τ', Off (kT k) τ τ' → TabIs τ' k [] l → Q none τ') : RT mX8_reset none 0 [some (.ref k), some (.int (nI l))] [] τ Q := by
  obtain ⟨f0, f1, f2, f3, a0, a1, h38⟩ := isT_f hk
  refine rt_run 1 rfl ?_
  refine rt_getQ rfl f1 h38 ?_
  refine rt_run 1 rfl ?_
  refine rt_cS mJ7_fill_53178 kX8_reset_5 okJ7_fill_53178 rfl rfl ?_
  refine fill_spec a1 (fun f hf => ?_)
  refine rt_run 2 rfl ?_
  refine rt_putI rfl f2 rfl ?_
  refine rt_run 3 rfl ?_
  refine rt_min rfl (by decide +kernel) (by decide) (Nat.le_of_ble_eq_true rfl) ?_
  rw [show (if (400 : Int32) < nI l then (400 : Int32) else nI l) = nI l by
    rw [if_neg]
    exact nI_nlt (a := 400) (b := l) hl (by omega)]
  refine rt_putI rfl f3 rfl ?_
  refine rt_vret rfl rfl (h _ ((((Off.rf _ _).sA (by simp) _).sF (by simp) _ _).sF (by simp) _ _) ⟨?_, ?_, Nat.zero_le _, hl, List.nodup_nil, fun i x hx => by simp at hx, ?_, fun s hs hne => ?_, fun j x hx => by simp at hx⟩)
  · rw [gF_sF, if_pos rfl, pk_un (by decide), gF_sF, if_pos rfl, pk_us]; rfl
  · rw [gF_sF, if_pos rfl, pk_us]
  · have e : gI (sF (sF (sA τ (k + 2) f) k 2 0) k 3 (nI l)) (k + 2) = f := by rw [gI_sF, gI_sF, gI_sA, if_pos rfl]
    rw [e]
    rw [List.length_nil, List.countP_eq_zero]
    intro s hs
    simp [hf s (List.mem_range.mp hs)]
  · have e : gI (sF (sF (sA τ (k + 2) f) k 2 0) k 3 (nI l)) (k + 2) = f := by rw [gI_sF, gI_sF, gI_sA, if_pos rfl]
    rw [e] at hne
    exact absurd (hf s hs) hne
end
section
/-! longs as numbers: the first two families are those of kit/laws/BITS; then sets as numbers -/
/-! ===== lN n to 2^64: shifts, and, or, masks, one bit ===== -/
theorem wb_tb (n : Nat) : (lN n).toBitVec = BitVec.ofNat 64 n := rfl
theorem wb_inj {a b : Int64} (h : a.toBitVec = b.toBitVec) : a = b := Int64.toBitVec_inj.mp h
theorem wb_tn {n : Nat} (h : n < 2 ^ 64) : (lN n).toBitVec.toNat = n := by rw [wb_tb, BitVec.toNat_ofNat, Nat.mod_eq_of_lt h]
theorem wb_of (x : Int64) : ∃ n, n < 2 ^ 64 ∧ x = lN n := ⟨x.toBitVec.toNat, x.toBitVec.isLt, wb_inj (by rw [wb_tb]; simp)⟩
theorem wb_of32 (x : Int32) : ∃ n, n < 2 ^ 32 ∧ x = nI n := ⟨x.toBitVec.toNat, x.toBitVec.isLt, Int32.toBitVec_inj.mp (by show _ = BitVec.ofNat 32 _; simp)⟩
theorem wb_c : ∀ k, k < 64 → ((nI k).toInt64 &&& 63) = lN k := by decide +kernel
theorem wb_cu : ∀ k, k < 64 → ((nI k).toInt64.toUInt64 &&& Int64.toUInt64 63) = UInt64.ofNat k := by decide +kernel
theorem wb_sm : ∀ k, k < 64 → (BitVec.ofNat 64 k).smod 64 = BitVec.ofNat 64 k := by decide +kernel
theorem wb_pw {a b : Nat} (h : a ≤ b) : 2 ^ b = 2 ^ a * 2 ^ (b - a) := by rw [← Nat.pow_add]; congr 1; omega
theorem wb_lt2 {a b : Nat} (h : a < b) : 2 ^ a < 2 ^ b := Nat.pow_lt_pow_right (by decide) h
theorem wb_mod (n : Nat) : lN n = lN (n % 2 ^ 64) := wb_inj (by rw [wb_tb, wb_tb]; apply BitVec.eq_of_toNat_eq; rw [BitVec.toNat_ofNat, BitVec.toNat_ofNat, Nat.mod_mod])
theorem wb_shr {n k : Nat} (hn : n < 2 ^ 64) (hk : k < 64) : ((lN n).toUInt64 >>> ((nI k).toInt64.toUInt64 &&& Int64.toUInt64 63)).toInt64 = lN (n / 2 ^ k) := by
  rw [wb_cu k hk]
  apply wb_inj
  apply BitVec.eq_of_toNat_eq
  show ((lN n).toUInt64 >>> UInt64.ofNat k).toNat = (BitVec.ofNat 64 _).toNat
  have h1 : (UInt64.ofNat k).toNat = k := by
    show (BitVec.ofNat 64 k).toNat = k
    rw [BitVec.toNat_ofNat, Nat.mod_eq_of_lt (by omega)]
  have h2 : (lN n).toUInt64.toNat = n := wb_tn hn
  rw [UInt64.toNat_shiftRight, h1, h2, Nat.mod_eq_of_lt hk, Nat.shiftRight_eq_div_pow, BitVec.toNat_ofNat, Nat.mod_eq_of_lt (Nat.lt_of_le_of_lt (Nat.div_le_self _ _) hn)]
theorem wb_shl (n : Nat) {k : Nat} (hk : k < 64) : lN n <<< ((nI k).toInt64 &&& 63) = lN (n * 2 ^ k) := by
  rw [wb_c k hk]
  apply wb_inj
  rw [Int64.toBitVec_shiftLeft, wb_tb, wb_tb, wb_tb, wb_sm k hk]
  apply BitVec.eq_of_toNat_eq
  rw [BitVec.shiftLeft_eq', BitVec.toNat_shiftLeft, BitVec.toNat_ofNat, BitVec.toNat_ofNat, BitVec.toNat_ofNat, Nat.mod_eq_of_lt (show k < 2 ^ 64 by omega), Nat.shiftLeft_eq, Nat.mul_mod, Nat.mod_mod, ← Nat.mul_mod]
theorem wb_and {a b : Nat} (ha : a < 2 ^ 64) (hb : b < 2 ^ 64) : lN a &&& lN b = lN (a &&& b) := by
  apply wb_inj
  rw [Int64.toBitVec_and, wb_tb, wb_tb, wb_tb]
  apply BitVec.eq_of_toNat_eq
  rw [BitVec.toNat_and, BitVec.toNat_ofNat, BitVec.toNat_ofNat, BitVec.toNat_ofNat, Nat.mod_eq_of_lt ha, Nat.mod_eq_of_lt hb, Nat.mod_eq_of_lt (Nat.and_lt_two_pow _ hb)]
theorem wb_or {a b : Nat} (ha : a < 2 ^ 64) (hb : b < 2 ^ 64) : lN a ||| lN b = lN (a ||| b) := by
  apply wb_inj
  rw [Int64.toBitVec_or, wb_tb, wb_tb, wb_tb]
  apply BitVec.eq_of_toNat_eq
  rw [BitVec.toNat_or, BitVec.toNat_ofNat, BitVec.toNat_ofNat, BitVec.toNat_ofNat, Nat.mod_eq_of_lt ha, Nat.mod_eq_of_lt hb, Nat.mod_eq_of_lt (Nat.or_lt_two_pow ha hb)]
theorem wb_mask {n k : Nat} (hn : n < 2 ^ 64) (hk : k < 64) : lN n &&& lN (2 ^ k - 1) = lN (n % 2 ^ k) := by
  rw [wb_and hn (by have := wb_lt2 hk; omega), Nat.and_two_pow_sub_one_eq_mod]
theorem wb_a1 {n : Nat} (hn : n < 2 ^ 64) : lN n &&& 1 = lN (n % 2) := wb_mask (k := 1) hn (by decide)
theorem wb_bit {n k : Nat} (hn : n < 2 ^ 64) (hk : k < 64) : ((lN n).toUInt64 >>> ((nI k).toInt64.toUInt64 &&& Int64.toUInt64 63)).toInt64 &&& 1 = lN (n / 2 ^ k % 2) := by
  rw [wb_shr hn hk, wb_a1 (Nat.lt_of_le_of_lt (Nat.div_le_self _ _) hn)]
theorem wb_xor {q k : Nat} (hk : k < 63) (h : 2 ^ k ≤ q) (h2 : q < 2 ^ (k + 1)) : lN q ^^^ lN (2 ^ k) = lN (q - 2 ^ k) := by
  obtain ⟨r, rfl⟩ : ∃ r, q = 2 ^ k + r := ⟨q - 2 ^ k, by omega⟩
  have hr : r < 2 ^ k := by rw [Nat.pow_succ] at h2; omega
  have hx : (2 ^ k + r) ^^^ 2 ^ k = r := by
    apply Nat.eq_of_testBit_eq
    intro i
    rw [Nat.testBit_xor, Nat.testBit_two_pow]
    rcases Nat.lt_trichotomy i k with h | h | h
    · rw [Nat.testBit_two_pow_add_gt h]
      simp [show ¬ k = i by omega]
    · subst h
      rw [Nat.testBit_two_pow_add_eq]
      simp
    · have a1 : 2 ^ (k + 1) ≤ 2 ^ i := Nat.pow_le_pow_right (by decide) h
      rw [Nat.testBit_lt_two_pow (show 2 ^ k + r < 2 ^ i by omega), Nat.testBit_lt_two_pow (show r < 2 ^ i by omega)]
      simp [show ¬ k = i by omega]
  have b1 := wb_lt2 (show k + 1 < 64 by omega)
  have b2 := wb_lt2 (show k < 64 by omega)
  apply wb_inj
  rw [Int64.toBitVec_xor, wb_tb, wb_tb, wb_tb]
  apply BitVec.eq_of_toNat_eq
  rw [BitVec.toNat_xor, BitVec.toNat_ofNat, BitVec.toNat_ofNat, BitVec.toNat_ofNat, Nat.mod_eq_of_lt (by omega : 2 ^ k + r < 2 ^ 64), Nat.mod_eq_of_lt b2, hx, Nat.add_sub_cancel_left, Nat.mod_eq_of_lt (by omega)]
/-! ===== lN: masks, 'or' of parts that don't overlap is a sum ===== -/
theorem u_tn {n : Nat} (h : n < 2 ^ 64) : (UInt64.ofNat n).toNat = n := Nat.mod_eq_of_lt h
theorem g_and {a b c : Nat} (ha : a < 2 ^ 64) (hb : b < 2 ^ 64) (hc : a &&& b = c) : lN a &&& lN b = lN c := by
  subst hc
  have h : UInt64.ofNat a &&& UInt64.ofNat b = UInt64.ofNat (a &&& b) := UInt64.toNat_inj.mp (by rw [UInt64.toNat_and, u_tn ha, u_tn hb, u_tn (Nat.and_lt_two_pow a hb)])
  have h2 := congrArg UInt64.toInt64 h
  exact h2
theorem g_and1 {a : Nat} (ha : a < 2 ^ 64) : lN a &&& 1 = lN (a % 2) := g_and (b := 1) ha (by decide) (Nat.and_two_pow_sub_one_eq_mod a 1)
theorem g_mask {a s p : Nat} (hp : 2 ^ s = p) (hs : s < 64) (ha : a < 2 ^ 64) : lN a &&& lN (p - 1) = lN (a % p) := by
  subst hp
  have := Nat.pow_lt_pow_right (show 1 < 2 by decide) hs
  exact g_and ha (by omega) (Nat.and_two_pow_sub_one_eq_mod a s)
theorem g_or {k p a b : Nat} (hp : 2 ^ k = p) (ha : a < p) (h : b * p + a < 2 ^ 64) : lN (b * p) ||| lN a = lN (b * p + a) := by
  subst hp
  have h1 : b * 2 ^ k ||| a = b * 2 ^ k + a := by rw [← Nat.shiftLeft_eq, Nat.shiftLeft_add_eq_or_of_lt ha]
  have h3 : UInt64.ofNat (b * 2 ^ k) ||| UInt64.ofNat a = UInt64.ofNat (b * 2 ^ k + a) := UInt64.toNat_inj.mp (by rw [UInt64.toNat_or, u_tn (by omega), u_tn (by omega), u_tn h, h1])
  have h2 := congrArg UInt64.toInt64 h3
  exact h2
theorem g_or' {k p a b : Nat} (hp : 2 ^ k = p) (ha : a < p) (h : a + b * p < 2 ^ 64) : lN a ||| lN (b * p) = lN (a + b * p) := by
  rw [Int64.or_comm, g_or hp ha (by omega), Nat.add_comm]
theorem g_ushr {a k p : Nat} {y : UInt64} (hy : y = UInt64.ofNat k) (hk : k < 64) (hp : 2 ^ k = p) (ha : a < 2 ^ 64) : ((lN a).toUInt64 >>> y).toInt64 = lN (a / p) := by
  subst hy hp
  have h : UInt64.ofNat a >>> UInt64.ofNat k = UInt64.ofNat (a / 2 ^ k) := UInt64.toNat_inj.mp (by rw [UInt64.toNat_shiftRight, u_tn ha, u_tn (by omega), u_tn (Nat.lt_of_le_of_lt (Nat.div_le_self _ _) ha), Nat.mod_eq_of_lt hk, Nat.shiftRight_eq_div_pow])
  have h2 := congrArg UInt64.toInt64 h
  exact h2
theorem g_shl {a k p : Nat} {y : Int64} (hy : y.toBitVec.smod 64 = BitVec.ofNat 64 k) (hk : k < 64) (hp : 2 ^ k = p) (ha : a < 2 ^ 64) : lN a <<< y = lN (a * p) := by
  subst hp
  apply Int64.toBitVec_inj.mp
  rw [Int64.toBitVec_shiftLeft, hy]
  apply BitVec.eq_of_toNat_eq
  have hb : (lN a).toBitVec.toNat = a := Nat.mod_eq_of_lt ha
  have hk' : (BitVec.ofNat 64 k).toNat = k := Nat.mod_eq_of_lt (by omega)
  have h : ((lN a).toBitVec <<< BitVec.ofNat 64 k).toNat = (a * 2 ^ k) % 2 ^ 64 := by simp only [BitVec.shiftLeft_eq', BitVec.toNat_shiftLeft, hb, hk', Nat.shiftLeft_eq]
  exact h
/-! sets as numbers: bit p is place p, bit 0 the beginning -/
def encN (S : Nat → Bool) : Nat → Nat
  | 0 => 0
  | n + 1 => encN S n ||| (if S n = true then 2 ^ n else 0)
def enc (S : Nat → Bool) : Nat := encN S 25
theorem encN_tb (S : Nat → Bool) (n i : Nat) : (encN S n).testBit i = (decide (i < n) && S i) := by
  induction n with
  | zero => simp [encN]
  | succ n ih =>
    unfold encN
    rw [Nat.testBit_or, ih]
    by_cases hS : S n = true
    · rw [if_pos hS, Nat.testBit_two_pow]
      by_cases hin : i = n
      · subst hin; simp [hS]
      · have h1 : ¬ n = i := fun e => hin e.symm
        have h2 : (i < n + 1) ↔ i < n := by omega
        simp [h1, h2]
    · rw [if_neg hS]
      by_cases hin : i = n
      · subst hin
        have : S i = false := by cases h : S i; rfl; exact absurd h hS
        simp [this]
      · have h2 : (i < n + 1) ↔ i < n := by omega
        simp [h2]
theorem encN_lt (S : Nat → Bool) (n : Nat) : encN S n < 2 ^ n := by
  induction n with
  | zero => simp [encN]
  | succ n ih =>
    unfold encN
    refine Nat.or_lt_two_pow (by rw [Nat.pow_succ]; omega) ?_
    split
    · rw [Nat.pow_succ]; have := Nat.two_pow_pos n; omega
    · exact Nat.two_pow_pos _
theorem enc_lt (S : Nat → Bool) : enc S < 33554432 := encN_lt S 25
theorem enc_tb (S : Nat → Bool) (i : Nat) : (enc S).testBit i = (decide (i < 25) && S i) := encN_tb S 25 i
theorem enc_ext {S T : Nat → Bool} (h : ∀ i, i < 25 → S i = T i) : enc S = enc T := by
  apply Nat.eq_of_testBit_eq
  intro i
  rw [enc_tb, enc_tb]
  by_cases hi : i < 25
  · rw [h i hi]
  · simp [hi]
theorem bt_nI (c : Nat) {i : Nat} (hi : i < 32) : bt (nI c) i = c.testBit i := by
  show (BitVec.ofNat 32 c).getLsbD i = _
  rw [BitVec.getLsbD_ofNat]
  simp [hi]
theorem int_of_bits {x : Int32} {S : Nat → Bool} (h : ∀ i, i < 32 → bt x i = S i) (hz : ∀ i, 25 ≤ i → i < 32 → S i = false) : x = nI (enc S) := by
  apply b_ext
  intro i hi
  rw [h i hi, bt_nI _ hi, enc_tb]
  by_cases h25 : i < 25
  · simp [h25]
  · simp [h25, hz i (by omega) hi]
/-- the set behind a set by a sign -/
def nx (A : AE) (c s : Nat) : Nat := enc (fun i => nxt A (fun p => c.testBit p) i && A.2.1 s i)
theorem nx_lt (A : AE) (c s : Nat) : nx A c s < 33554432 := enc_lt _
theorem tb_big {c i : Nat} (hc : c < 33554432) (hi : 25 ≤ i) : c.testBit i = false := Nat.testBit_lt_two_pow (Nat.lt_of_lt_of_le (show c < 2 ^ 25 from hc) (Nat.pow_le_pow_right (by decide) hi))
/-- does a set hold a place that can be last -/
def finB (A : AE) (c : Nat) : Bool := (List.range 25).any (fun p => c.testBit p && A.2.2.1 p)
theorem fin_code {τ : Ty} {k c : Nat} {A : AE} (hE : ExIs τ k A) (hc : c < 33554432) : (nI c &&& gF τ k 2 = 0) ↔ finB A c = false := by
  rw [b_zero]
  unfold finB
  constructor
  · intro h
    rw [Bool.eq_false_iff]
    intro hh
    obtain ⟨p, hp, hb⟩ := List.any_eq_true.mp hh
    have hp := List.mem_range.mp hp
    have := h p (by omega)
    rw [b_and, bt_nI _ (by omega), hE.2.2.2.1 p (by omega)] at this
    rw [this] at hb
    cases hb
  · intro h i hi
    rw [b_and, bt_nI _ hi, hE.2.2.2.1 i hi]
    by_cases h25 : i < 25
    · cases hb : c.testBit i && A.2.2.1 i with
      | false => rfl
      | true =>
        exfalso
        rw [Bool.eq_false_iff] at h
        exact h (List.any_eq_true.mpr ⟨i, List.mem_range.mpr h25, hb⟩)
    · rw [tb_big hc (by omega)]; rfl
theorem after_code {τ : Ty} {k c s : Nat} {A : AE} {g : Int32} (hE : ExIs τ k A) (hs : s < 8) (hg : ∀ i, i < 32 → bt g i = nxt A (fun p => c.testBit p) i) : g &&& gI τ (k + 2) s = nI (nx A c s) := by
  refine int_of_bits (fun i hi => ?_) (fun i h25 hi => ?_)
  · rw [b_and, hg i hi, hE.2.2.1 s hs i hi]
  · cases hb : A.2.1 s i with
    | false => simp
    | true =>
      have := (hE.2.2.2.2.2.2.1 s i hb).2
      have := hE.2.2.2.2.1
      omega
theorem behind_specN {k c : Nat} {A : AE} {τ : Ty} {Q : Option Value → Ty → Prop} (hk : isE k) (hE : ExIs τ k A) (h : ∀ g : Int32, (∀ i, i < 32 → bt g i = nxt A (fun p => c.testBit p) i) → Q (some (.int g)) τ) : RT mX2_behind none 0 [some (.ref k), some (.int (nI c)), none, none] [] τ Q :=
  behind_specA hk hE (fun i hi => bt_nI c hi) h
theorem after_specN {k c s : Nat} {A : AE} {τ : Ty} {Q : Option Value → Ty → Prop} (hk : isE k) (hE : ExIs τ k A) (hs : s < 8) (h : Q (some (.int (nI (nx A c s)))) τ) : RT mX2_after none 0 [some (.ref k), some (.int (nI c)), some (.int (nI s))] [] τ Q := by
  refine after_spec hk hE.1 hE.2.2.2.2.1 hs ?_
  rw [after_code (A := A) (c := c) hE hs (fun i hi => behind_bt hE (fun i hi => bt_nI c hi) hi)]
  exact h
theorem finishes_specN {k c : Nat} {A : AE} {τ : Ty} {Q : Option Value → Ty → Prop} (hk : isE k) (hE : ExIs τ k A) (hc : c < 33554432) (h : Q (some (.int (if finB A c = true then 1 else 0))) τ) : RT mX2_finishes none 0 [some (.ref k), some (.int (nI c))] [] τ Q := by
  refine finishes_spec hk ?_
  by_cases hz : nI c &&& gF τ k 2 = 0
  · rw [if_pos hz]
    rw [(fin_code hE hc).mp hz] at h
    exact h
  · rw [if_neg hz]
    have : finB A c = true := by
      cases hb : finB A c with
      | true => rfl
      | false => exact absurd ((fin_code hE hc).mpr hb) hz
    rw [this] at h
    exact h
end
section
/-! Comparison: pairs of sets, as they come -/
abbrev PL : Type := List (Nat × Nat)
def addP (K : PL) (lim : Nat) (x : Nat × Nat) : Option PL := if x ∈ K then some K else if K.length < lim then some (K ++ [x]) else none
def exN (A B : AE) (lim : Nat) (x : Nat × Nat) (K : PL) : Nat → Option PL
  | 0 => some K
  | s + 1 => (exN A B lim x K s).bind (fun K' => addP K' lim (nx A x.1 s, nx B x.2 s))
def wdN (A B : AE) (lim : Nat) (K : PL) (fr : Nat) : Nat → Option PL
  | 0 => some K
  | d + 1 => (wdN A B lim K fr d).bind (fun K' => match K[fr + d]? with
    | some x => exN A B lim x K' 8
    | none => some K')
def apart (A B : AE) (x : Nat × Nat) : Bool := finB A x.1 && !finB B x.2
def bey (A B : AE) (lim : Nat) : Nat → Nat → Nat → PL → Int32 × PL
  | 0, _, _, K => (-1, K)
  | f + 1, n, done, K => if (K.drop done).any (apart A B) = true then (nI n, K) else match wdN A B lim K done (K.length - done) with
    | none => (-4, K)
    | some K' => if K'.length = K.length then (-1, K') else bey A B lim f (n + 1) K.length K'
def pkey (x : Nat × Nat) : Int64 := lN (x.1 * 4294967296 + x.2)
def PLok (K : PL) : Prop := ∀ x ∈ K, x.1 < 33554432 ∧ x.2 < 33554432
def PTab (τ : Ty) (K : PL) (lim : Nat) : Prop := TabIs τ 46 (K.map pkey) lim ∧ PLok K
theorem lN_inj {a b : Nat} (ha : a < 2 ^ 64) (hb : b < 2 ^ 64) (h : lN a = lN b) : a = b := by
  have := congrArg (fun z : Int64 => z.toBitVec.toNat) h
  simpa [wb_tn ha, wb_tn hb] using this
theorem pkey_inj {x y : Nat × Nat} (hx : x.1 < 33554432 ∧ x.2 < 33554432) (hy : y.1 < 33554432 ∧ y.2 < 33554432) (h : pkey x = pkey y) : x = y := by
  have := lN_inj (by omega) (by omega) h
  have h1 : x.1 = y.1 := by omega
  have h2 : x.2 = y.2 := by omega
  exact Prod.ext h1 h2
theorem pkey_mem {K : PL} {x : Nat × Nat} (hK : PLok K) (hx : x.1 < 33554432 ∧ x.2 < 33554432) : pkey x ∈ K.map pkey ↔ x ∈ K := by
  rw [List.mem_map]
  constructor
  · rintro ⟨y, hy, he⟩
    rw [← pkey_inj (hK y hy) hx he]
    exact hy
  · intro h
    exact ⟨x, h, rfl⟩
theorem addP_pre {K K' : PL} {lim : Nat} {x : Nat × Nat} (h : addP K lim x = some K') : ∃ T, K' = K ++ T := by
  unfold addP at h
  split at h
  · cases h; exact ⟨[], by simp⟩
  · split at h
    · cases h; exact ⟨[x], rfl⟩
    · cases h
theorem exN_pre {A B : AE} {lim : Nat} {x : Nat × Nat} {K K' : PL} {s : Nat} (h : exN A B lim x K s = some K') : ∃ T, K' = K ++ T := by
  induction s generalizing K' with
  | zero => cases h; exact ⟨[], by simp⟩
  | succ s ih =>
    unfold exN at h
    obtain ⟨K1, h1, h2⟩ := Option.bind_eq_some_iff.mp h
    obtain ⟨T1, rfl⟩ := ih h1
    obtain ⟨T2, rfl⟩ := addP_pre h2
    exact ⟨T1 ++ T2, by simp⟩
theorem wdN_pre {A B : AE} {lim : Nat} {K K' : PL} {fr d : Nat} (h : wdN A B lim K fr d = some K') : ∃ T, K' = K ++ T := by
  induction d generalizing K' with
  | zero => cases h; exact ⟨[], by simp⟩
  | succ d ih =>
    unfold wdN at h
    obtain ⟨K1, h1, h2⟩ := Option.bind_eq_some_iff.mp h
    obtain ⟨T1, rfl⟩ := ih h1
    cases hk : K[fr + d]? with
    | none => rw [hk] at h2; cases h2; exact ⟨T1, rfl⟩
    | some x =>
      rw [hk] at h2
      obtain ⟨T2, rfl⟩ := exN_pre h2
      exact ⟨T1 ++ T2, by simp⟩
theorem pairOf_spec {c d : Nat} {τ : Ty} {Q : Option Value → Ty → Prop} (hc : c < 33554432) (hd : d < 33554432) (h : Q (some (.long (pkey (c, d)))) τ) : RT mX0_pairOf none 0 [some (.int (nI c)), some (.int (nI d))] [] τ Q := by
  refine rt_run 7 rfl ?_
  refine rt_lret rfl rfl ?_
  have e : (nI c).toInt64 <<< ((32 : Int32).toInt64 &&& 63) ||| (nI d).toInt64 = pkey (c, d) := by
    rw [nI_l (by omega), nI_l (by omega), show (32 : Int32) = nI 32 from rfl, wb_shl c (by decide), show (2 : Nat) ^ 32 = 4294967296 by decide, g_or (k := 32) (by decide) (by omega) (by omega)]
    rfl
  rw [e]
  exact h
theorem pkey_lo {x : Nat × Nat} (h : x.1 < 33554432 ∧ x.2 < 33554432) : (pkey x).toInt32 = nI x.2 := by
  unfold pkey
  rw [lN_i]
  show Int32.ofNat _ = Int32.ofNat _
  apply Int32.toBitVec_inj.mp
  show BitVec.ofNat 32 _ = BitVec.ofNat 32 _
  apply BitVec.eq_of_toNat_eq
  rw [BitVec.toNat_ofNat, BitVec.toNat_ofNat]
  omega
theorem pkey_hi {x : Nat × Nat} (h : x.1 < 33554432 ∧ x.2 < 33554432) : ((pkey x).toUInt64 >>> ((32 : Int32).toInt64.toUInt64 &&& Int64.toUInt64 63)).toInt64.toInt32 = nI x.1 := by
  unfold pkey
  rw [show (32 : Int32) = nI 32 from rfl, wb_shr (by omega) (by decide), lN_i]
  congr 1
  rw [show (2 : Nat) ^ 32 = 4294967296 by decide]
  omega
theorem kT46 {k : Nat} (hk : isE k) : k ∉ kT 46 ∧ k + 1 ∉ kT 46 ∧ k + 2 ∉ kT 46 := by rcases hk with rfl | rfl | rfl | rfl | rfl <;> decide
/-- numbering a pair -/
theorem number_pair {lim : Nat} {K : PL} {x : Nat × Nat} {τ : Ty} {Q : Option Value → Ty → Prop} (hT : PTab τ K lim) (hx : x.1 < 33554432 ∧ x.2 < 33554432)
    (h1 : ∀ τ' K' r, addP K lim x = some K' → Off (kT 46) τ τ' → PTab τ' K' lim → ¬ r = -1 → Q (some (.int r)) τ') (h2 : addP K lim x = none → Q (some (.int (-1))) τ) :
    RT mX8_numberOf none 0 [some (.ref 46), some (.long (pkey x)), none, none, none, none] [] τ Q := by
  have hlen := hT.1.2.2.1
  have hlim := hT.1.2.2.2.1
  rw [List.length_map] at hlen
  have neg : ∀ j, j < 1000 → ¬ nI j = -1 := by
    intro j hj e
    have h9 : (nI j).toInt = (j : Int) := nI_toInt (by omega)
    rw [e] at h9
    have h10 : (-1 : Int32).toInt = -1 := by decide
    omega
  refine numberOf_spec (Or.inr rfl) hT.1 (fun j hj => ?_) (fun hn hl => ?_) (fun hn hl τ' hO hT' => ?_)
  · have hin : x ∈ K := (pkey_mem hT.2 hx).mp (List.mem_of_getElem? hj)
    have hj1 := (List.getElem?_eq_some_iff.mp hj).1
    rw [List.length_map] at hj1
    exact h1 τ K (nI j) (by unfold addP; rw [if_pos hin]) (Off.rf _ _) hT (neg j (by omega))
  · rw [List.length_map] at hl
    have hin : x ∉ K := fun e => hn ((pkey_mem hT.2 hx).mpr e)
    exact h2 (by unfold addP; rw [if_neg hin, if_neg (by omega)])
  · rw [List.length_map] at hl ⊢
    have hin : x ∉ K := fun e => hn ((pkey_mem hT.2 hx).mpr e)
    refine h1 τ' (K ++ [x]) (nI K.length) (by unfold addP; rw [if_neg hin, if_pos hl]) hO ⟨?_, fun y hy => ?_⟩ (neg _ (by omega))
    · rw [List.map_append]; exact hT'
    · rcases List.mem_append.mp hy with hy | hy
      · exact hT.2 y hy
      · simp at hy; subst hy; exact hx
theorem tellsApart_spec {ka kb lim fr : Nat} {A B : AE} {K : PL} {τ : Ty} {Q : Option Value → Ty → Prop} (hka : isE ka) (hkb : isE kb) (hA : ExIs τ ka A) (hB : ExIs τ kb B) (hT : PTab τ K lim) (hfr : fr ≤ K.length)
    (h : Q (some (.int (if (K.drop fr).any (apart A B) = true then 1 else 0))) τ) : RT mX0_tellsApart none 0 [some (.ref 45), some (.ref ka), some (.ref kb), some (.int (nI fr)), some (.int (nI K.length)), none, none, none] [] τ Q := by
  have hlen := hT.1.2.2.1
  have hlim := hT.1.2.2.2.1
  rw [List.length_map] at hlen
  have loop : ∀ d i (x6 x7 : Option Value), (∀ z, x6 ≠ some (.int z)) ∨ True → i + d = K.length → (K.drop fr).any (apart A B) = (K.drop i).any (apart A B) → RT mX0_tellsApart none 3 [some (.ref 45), some (.ref ka), some (.ref kb), some (.int (nI fr)), some (.int (nI K.length)), some (.int (nI i)), x6, x7] [] τ Q := by
    intro d
    induction d with
    | zero =>
      intro i x6 x7 _ hi hany
      refine rt_run 2 rfl ?_
      refine rt_ge i K.length rfl (by omega) (by omega) (fun _ => ?_) (fun _ => by omega)
      refine rt_run 1 rfl ?_
      rw [List.drop_of_length_le (i := i) (by omega)] at hany
      rw [hany] at h
      exact rt_zret rfl rfl (Or.inl rfl) h
    | succ d ih =>
      intro i x6 x7 _ hi hany
      refine rt_run 2 rfl ?_
      refine rt_ge i K.length rfl (by omega) (by omega) (fun _ => by omega) (fun hlt => ?_)
      have hq : K[i]? = some K[i] := List.getElem?_eq_getElem hlt
      have hx := hT.2 _ (List.getElem_mem hlt)
      have hkey := hT.1.2.2.2.2.2.1 i (pkey K[i]) (by rw [List.getElem?_map, hq]; rfl)
      have hdrop : (K.drop i).any (apart A B) = (apart A B K[i] || (K.drop (i + 1)).any (apart A B)) := by
        rw [List.drop_eq_getElem_cons hlt, List.any_cons]
      refine rt_run 4 rfl ?_
      refine rt_ldL i rfl (n := 400) rfl (by omega) ?_
      rw [hkey]
      refine rt_run 6 rfl ?_
      rw [pkey_hi hx]
      refine rt_cV (ci := 2) mX2_finishes kX0_tellsApart_29 okX2_finishes (isE_s hka) rfl rfl rfl rfl ?_
      refine finishes_specN hka hA hx.1 ?_
      have next : apart A B K[i] = false → RT mX0_tellsApart none 47 [some (.ref 45), some (.ref ka), some (.ref kb), some (.int (nI fr)), some (.int (nI K.length)), some (.int (nI i)), some (.long (pkey K[i])), none] [] τ Q := by
        intro hap
        refine rt_run 2 rfl ?_
        rw [← nI_succ]
        refine ih (i + 1) _ _ (Or.inr trivial) (by omega) ?_
        rw [hany, hdrop, hap, Bool.false_or]
      cases hfA : finB A K[i].1 with
      | false =>
        refine rt_if_eq rfl (fun _ => ?_) (fun hc => absurd rfl hc)
        exact next (by unfold apart; rw [hfA]; rfl)
      | true =>
        refine rt_if_eq rfl (fun hc => absurd hc (by decide)) (fun _ => ?_)
        refine rt_run 3 rfl ?_
        rw [pkey_lo hx]
        refine rt_cV (ci := 2) mX2_finishes kX0_tellsApart_39 okX2_finishes (isE_s hkb) rfl rfl rfl rfl ?_
        refine finishes_specN hkb hB hx.2 ?_
        cases hfB : finB B K[i].2 with
        | true =>
          refine rt_if_ne rfl (fun _ => ?_) (fun hc => absurd hc (by decide))
          exact next (by unfold apart; rw [hfA, hfB]; rfl)
        | false =>
          refine rt_if_ne rfl (fun hc => absurd rfl hc) (fun _ => ?_)
          refine rt_run 1 rfl ?_
          have : apart A B K[i] = true := by unfold apart; rw [hfA, hfB]; rfl
          rw [hany, hdrop, this, Bool.true_or] at h
          exact rt_zret rfl rfl (Or.inr rfl) h
  refine rt_run 2 rfl ?_
  exact loop (K.length - fr) fr none none (Or.inr trivial) (by omega) rfl
end
section
/-! Comparison.widens, shortestBeyond, statesOf -/
theorem exN_none {A B : AE} {lim : Nat} {x : Nat × Nat} {K : PL} {s t : Nat} (h : exN A B lim x K s = none) (hst : s ≤ t) : exN A B lim x K t = none := by
  induction t with
  | zero => have : s = 0 := by omega
            subst this; exact h
  | succ t ih =>
    by_cases hs : s = t + 1
    · subst hs; exact h
    · unfold exN
      rw [ih (by omega)]; rfl
theorem wdN_none {A B : AE} {lim : Nat} {K : PL} {fr d t : Nat} (h : wdN A B lim K fr d = none) (hst : d ≤ t) : wdN A B lim K fr t = none := by
  induction t with
  | zero => have : d = 0 := by omega
            subst this; exact h
  | succ t ih =>
    by_cases hs : d = t + 1
    · subst hs; exact h
    · unfold wdN
      rw [ih (by omega)]; rfl
theorem wdN_s {A B : AE} {lim : Nat} {K Ki : PL} {fr d : Nat} {x : Nat × Nat} (h : wdN A B lim K fr d = some Ki) (hx : K[fr + d]? = some x) : wdN A B lim K fr (d + 1) = exN A B lim x Ki 8 := by
  show (wdN A B lim K fr d).bind _ = _
  rw [h]
  show (match K[fr + d]? with
    | some x => exN A B lim x Ki 8
    | none => some Ki) = _
  rw [hx]
set_option maxHeartbeats 2000000 in
theorem widens0_spec {ka kb lim fr : Nat} {A B : AE} {K : PL} {τ : Ty} {Q : Option Value → Ty → Prop} (hka : isE ka) (hkb : isE kb) (hA : ExIs τ ka A) (hB : ExIs τ kb B) (hT : PTab τ K lim) (hfr : fr ≤ K.length)
    (h1 : ∀ τ' K', wdN A B lim K fr (K.length - fr) = some K' → Off (kT 46) τ τ' → PTab τ' K' lim → Q (some (.int 1)) τ') (h2 : wdN A B lim K fr (K.length - fr) = none → ∀ τ', Off (kT 46) τ τ' → Q (some (.int 0)) τ') :
    RT mX0_widens none 0 [some (.ref 45), some (.ref ka), some (.ref kb), some (.int (nI fr)), some (.int (nI K.length)), none, none, none, none, none, none, none, none] [] τ Q := by
  obtain ⟨f0, f1, f2, f3, f4, a0, a1, h38⟩ := isE_f hka
  obtain ⟨p0, p1, p2, p3, p4, b0, b1, q38⟩ := isE_f hkb
  have hlen := hT.1.2.2.1
  have hlim := hT.1.2.2.2.1
  rw [List.length_map] at hlen
  have loop : ∀ d i τ' Ki (x6 x7 x8 x9 x10 x11 x12 : Option Value), i + d = K.length → fr ≤ i → Off (kT 46) τ τ' → wdN A B lim K fr (i - fr) = some Ki → PTab τ' Ki lim → RT mX0_widens none 3 [some (.ref 45), some (.ref ka), some (.ref kb), some (.int (nI fr)), some (.int (nI K.length)), some (.int (nI i)), x6, x7, x8, x9, x10, x11, x12] [] τ' Q := by
    intro d
    induction d with
    | zero =>
      intro i τ' Ki x6 x7 x8 x9 x10 x11 x12 hi hfi hO hw hT'
      refine rt_run 2 rfl ?_
      refine rt_ge i K.length rfl (by omega) (by omega) (fun _ => ?_) (fun _ => by omega)
      refine rt_run 1 rfl ?_
      rw [show i = K.length by omega] at hw
      exact rt_zret rfl rfl (Or.inr rfl) (h1 τ' Ki hw hO hT')
    | succ d ih =>
      intro i τ' Ki x6 x7 x8 x9 x10 x11 x12 hi hfi hO hw hT'
      have hA' := hA.off hO (kT46 hka)
      have hB' := hB.off hO (kT46 hkb)
      refine rt_run 2 rfl ?_
      refine rt_ge i K.length rfl (by omega) (by omega) (fun _ => by omega) (fun hlt => ?_)
      have hq : K[i]? = some K[i] := List.getElem?_eq_getElem hlt
      have hx := hT.2 _ (List.getElem_mem hlt)
      obtain ⟨T, hpre⟩ := wdN_pre hw
      have hkey := hT'.1.2.2.2.2.2.1 i (pkey K[i]) (by rw [List.getElem?_map, hpre, List.getElem?_append_left hlt, hq]; rfl)
      refine rt_run 4 rfl ?_
      refine rt_ldL i rfl (n := 400) rfl (by omega) ?_
      rw [hkey]
      refine rt_run 6 rfl ?_
      rw [pkey_hi hx]
      refine rt_cV (ci := 2) mX2_behind kX0_widens_29 okX2_behind (isE_s hka) rfl rfl rfl rfl ?_
      refine behind_specN hka hA' (fun g hg => ?_)
      refine rt_run 4 rfl ?_
      rw [pkey_lo hx]
      refine rt_cV (ci := 2) mX2_behind kX0_widens_38 okX2_behind (isE_s hkb) rfl rfl rfl rfl ?_
      refine behind_specN hkb hB' (fun g2 hg2 => ?_)
      have hwd := wdN_s hw (x := K[i]) (by rw [show fr + (i - fr) = i by omega]; exact hq)
      rw [show i - fr + 1 = i + 1 - fr by omega] at hwd
      have inner : ∀ d2 s τ'' K2 (y11 y12 : Option Value), s + d2 = 8 → Off (kT 46) τ τ'' → exN A B lim K[i] Ki s = some K2 → PTab τ'' K2 lim → RT mX0_widens none 46 [some (.ref 45), some (.ref ka), some (.ref kb), some (.int (nI fr)), some (.int (nI K.length)), some (.int (nI i)), some (.long (pkey K[i])), none, some (.int g), some (.int g2), some (.int (nI s)), y11, y12] [] τ'' Q := by
        intro d2
        induction d2 with
        | zero =>
          intro s τ'' K2 y11 y12 hs hO2 hex hT2
          refine rt_run 2 rfl ?_
          refine rt_ge s 8 rfl (by omega) (by omega) (fun _ => ?_) (fun _ => by omega)
          refine rt_run 2 rfl ?_
          rw [← nI_succ]
          refine ih (i + 1) τ'' K2 _ _ _ _ _ _ _ (by omega) (by omega) hO2 ?_ hT2
          rw [hwd, ← hex, show s = 8 by omega]
        | succ d2 ih2 =>
          intro s τ'' K2 y11 y12 hs hO2 hex hT2
          have hA2 := hA.off hO2 (kT46 hka)
          have hB2 := hB.off hO2 (kT46 hkb)
          refine rt_run 2 rfl ?_
          refine rt_ge s 8 rfl (by omega) (by omega) (fun _ => by omega) (fun _ => ?_)
          refine rt_run 2 rfl ?_
          refine rt_getQ rfl f1 h38 ?_
          refine rt_run 1 rfl ?_
          refine rt_ld s rfl a1 (by omega) ?_
          refine rt_run 3 rfl ?_
          refine rt_getQ rfl p1 q38 ?_
          refine rt_run 1 rfl ?_
          refine rt_ld s rfl b1 (by omega) ?_
          refine rt_run 1 rfl ?_
          rw [after_code (A := A) (c := K[i].1) hA2 (by omega) hg, after_code (A := B) (c := K[i].2) hB2 (by omega) hg2]
          refine rt_cS mX0_pairOf kX0_widens_73 okX0_pairOf rfl rfl ?_
          refine pairOf_spec (nx_lt _ _ _) (nx_lt _ _ _) ?_
          refine rt_run 4 rfl ?_
          refine rt_cV (ci := 8) mX8_numberOf kX0_widens_84 okX8_numberOf rfl rfl rfl rfl rfl ?_
          have hex1 : exN A B lim K[i] Ki (s + 1) = addP K2 lim (nx A K[i].1 s, nx B K[i].2 s) := by
            show (exN A B lim K[i] Ki s).bind _ = _
            rw [hex]; rfl
          refine number_pair hT2 ⟨nx_lt _ _ _, nx_lt _ _ _⟩ (fun τ3 K3 r ha hO3 hT3 hr => ?_) (fun hn => ?_)
          · refine rt_run 1 rfl ?_
            refine rt_ic_ne rfl (fun _ => ?_) (fun hc => absurd hc hr)
            refine rt_run 2 rfl ?_
            rw [← nI_succ]
            exact ih2 (s + 1) τ3 K3 _ _ (by omega) (hO2.tr hO3) (by rw [hex1]; exact ha) hT3
          · refine rt_run 1 rfl ?_
            refine rt_ic_ne rfl (fun hc => absurd rfl hc) (fun _ => ?_)
            refine rt_run 1 rfl ?_
            refine rt_zret rfl rfl (Or.inl rfl) (h2 ?_ τ'' hO2)
            refine wdN_none (d := i + 1 - fr) ?_ (by omega)
            rw [hwd]
            exact exN_none (s := s + 1) (by rw [hex1]; exact hn) (by omega)
      refine rt_run 3 rfl ?_
      exact inner 8 0 τ' Ki _ _ (by omega) hO rfl hT'
  refine rt_run 2 rfl ?_
  exact loop (K.length - fr) fr τ K none none none none none none none (by omega) (Nat.le_refl _) (Off.rf _ _) (by rw [Nat.sub_self]; rfl) hT
theorem shortestBeyond_spec {ka kb lim : Nat} {A B : AE} {τ : Ty} {Q : Option Value → Ty → Prop} (hka : isE ka) (hkb : isE kb) (hA : ExIs τ ka A) (hB : ExIs τ kb B) (hlim : lim ≤ 400) (h1 : 1 ≤ lim)
    (h : ∀ τ', Off (kT 46) τ τ' → ((bey A B lim 401 0 0 [(1, 1)]).1 ≠ -4 → PTab τ' (bey A B lim 401 0 0 [(1, 1)]).2 lim) → Q (some (.int (bey A B lim 401 0 0 [(1, 1)]).1)) τ') :
    RT mX0_shortestBeyond none 0 [some (.ref 45), some (.ref ka), some (.ref kb), some (.int (nI lim)), none, none, none] [] τ Q := by
  have loop : ∀ d n τ' dn K (x6 : Option Value), n + d = 401 → dn ≤ K.length → Off (kT 46) τ τ' → PTab τ' K lim → bey A B lim 401 0 0 [(1, 1)] = bey A B lim d n dn K → RT mX0_shortestBeyond none 27 [some (.ref 45), some (.ref ka), some (.ref kb), some (.int (nI lim)), some (.int (nI dn)), some (.int (nI n)), x6] [] τ' Q := by
    intro d
    induction d with
    | zero =>
      intro n τ' dn K x6 hn hdn hO hT hb
      refine rt_run 2 rfl ?_
      refine rt_gt n 400 rfl (by omega) (by omega) (fun _ => ?_) (fun _ => by omega)
      refine rt_run 1 rfl ?_
      have hh := h τ' hO
      rw [hb] at hh
      exact rt_iret rfl rfl (hh (fun _ => hT))
    | succ d ih =>
      intro n τ' dn K x6 hn hdn hO hT hb
      have hA' := hA.off hO (kT46 hka)
      have hB' := hB.off hO (kT46 hkb)
      have hlen := hT.1.2.2.1
      rw [List.length_map] at hlen
      have hsz : gF τ' 46 2 = nI K.length := by rw [hT.1.1, List.length_map]
      refine rt_run 2 rfl ?_
      refine rt_gt n 400 rfl (by omega) (by omega) (fun _ => by omega) (fun _ => ?_)
      refine rt_run 4 rfl ?_
      rw [hsz]
      refine rt_run 5 rfl ?_
      refine rt_cV (ci := 0) mX0_tellsApart kX0_shortestBeyond_51 okX0_tellsApart rfl rfl rfl rfl rfl ?_
      refine tellsApart_spec hka hkb hA' hB' hT hdn ?_
      by_cases hap : (K.drop dn).any (apart A B) = true
      · rw [if_pos hap]
        refine rt_if_eq rfl (fun hc => absurd hc (by decide)) (fun _ => ?_)
        refine rt_run 1 rfl ?_
        have hh := h τ' hO
        rw [hb] at hh
        unfold bey at hh
        rw [if_pos hap] at hh
        exact rt_iret rfl rfl (hh (fun _ => hT))
      · rw [if_neg hap]
        refine rt_if_eq rfl (fun _ => ?_) (fun hc => absurd rfl hc)
        refine rt_run 5 rfl ?_
        refine rt_cV (ci := 0) mX0_widens kX0_shortestBeyond_67 okX0_widens rfl rfl rfl rfl rfl ?_
        refine widens0_spec hka hkb hA' hB' hT hdn (fun τ2 K2 hw hO2 hT2 => ?_) (fun hw τ2 hO2 => ?_)
        · refine rt_if_ne rfl (fun _ => ?_) (fun hc => absurd hc (by decide))
          have hlen2 := hT2.1.2.2.1
          rw [List.length_map] at hlen2
          have hsz2 : gF τ2 46 2 = nI K2.length := by rw [hT2.1.1, List.length_map]
          refine rt_run 4 rfl ?_
          refine rt_ne K2.length K.length rfl (by omega) (by omega) (fun hne => ?_) (fun heq => ?_) hsz2
          · refine rt_run 4 rfl ?_
            rw [← nI_succ]
            obtain ⟨T, hpre⟩ := wdN_pre hw
            refine ih (n + 1) τ2 K.length K2 _ (by omega) (by rw [hpre, List.length_append]; omega) (hO.tr hO2) hT2 ?_
            rw [hb]
            conv => lhs; unfold bey
            rw [if_neg hap, hw]
            simp only [if_neg hne]
          · refine rt_run 1 rfl ?_
            have hh := h τ2 (hO.tr hO2)
            rw [hb] at hh
            unfold bey at hh
            rw [if_neg hap, hw] at hh
            simp only [if_pos heq] at hh
            exact rt_iret rfl rfl (hh (fun _ => hT2))
        · refine rt_if_ne rfl (fun hc => absurd rfl hc) (fun _ => ?_)
          refine rt_run 1 rfl ?_
          have hh := h τ2 (hO.tr hO2)
          rw [hb] at hh
          unfold bey at hh
          rw [if_neg hap, hw] at hh
          exact rt_iret rfl rfl (hh (fun hc => absurd rfl hc))
  refine rt_run 3 rfl ?_
  refine rt_cV (ci := 8) mX8_reset kX0_shortestBeyond_5 okX8_reset rfl rfl rfl rfl rfl ?_
  refine reset_spec (Or.inr rfl) hlim (fun τ1 hO1 hT1 => ?_)
  refine rt_run 4 rfl ?_
  refine rt_cS mX0_pairOf kX0_shortestBeyond_14 okX0_pairOf rfl rfl ?_
  refine pairOf_spec (c := 1) (d := 1) (by decide) (by decide) ?_
  refine rt_cV (ci := 8) mX8_numberOf kX0_shortestBeyond_17 okX8_numberOf rfl rfl rfl rfl rfl ?_
  refine number_pair (K := []) (lim := lim) ⟨hT1, fun x hx => by simp at hx⟩ ⟨by decide, by decide⟩ (fun τ2 K2 r ha hO2 hT2 _ => ?_) (fun hn => ?_)
  · unfold addP at ha
    rw [if_neg (by simp), if_pos (show ([] : PL).length < lim from h1)] at ha
    cases ha
    refine rt_run 5 rfl ?_
    exact loop 401 0 τ2 0 [(1, 1)] none (by omega) (Nat.zero_le _) (hO1.tr hO2) hT2 rfl
  · exfalso
    unfold addP at hn
    rw [if_neg (by simp), if_pos (show ([] : PL).length < lim from h1)] at hn
    cases hn
theorem statesOf0_spec {ka : Nat} {A : AE} {τ : Ty} {Q : Option Value → Ty → Prop} (hka : isE ka) (hA : ExIs τ ka A)
    (h : ∀ τ', Off (kT 46) τ τ' → Q (some (.int (if (bey A A 200 401 0 0 [(1, 1)]).1 = -4 then -4 else nI (bey A A 200 401 0 0 [(1, 1)]).2.length))) τ') :
    RT mX0_statesOf none 0 [some (.ref 45), some (.ref ka), none] [] τ Q := by
  refine rt_run 4 rfl ?_
  refine rt_cV (ci := 0) mX0_shortestBeyond kX0_statesOf_6 okX0_shortestBeyond rfl rfl rfl rfl rfl ?_
  refine shortestBeyond_spec (lim := 200) hka hka hA hA (by decide) (by decide) (fun τ' hO hT => ?_)
  have hh := h τ' hO
  refine rt_run 3 rfl ?_
  refine rt_ic_ne rfl (fun hc => ?_) (fun hc => ?_)
  · rw [if_neg hc] at hh
    refine rt_run 3 rfl ?_
    have hsz : gF τ' 46 2 = nI (bey A A 200 401 0 0 [(1, 1)]).2.length := by rw [(hT hc).1.1, List.length_map]
    rw [hsz]
    exact rt_iret rfl rfl hh
  · rw [if_pos hc] at hh
    refine rt_run 2 rfl ?_
    exact rt_iret rfl rfl hh
end
section
/-! Tally: states as they come, ways by state and vertex -/
def isW (wa wb : Nat) : Prop := (wa = 43 ∧ wb = 44) ∨ (wa = 44 ∧ wb = 43)
theorem isW_f {wa wb : Nat} (h : isW wa wb) : aI wa = some 4000 ∧ aI wb = some 4000 ∧ wa ≠ wb ∧ wa ∈ [43, 44] ∧ wb ∈ [43, 44] := by
  rcases h with ⟨rfl, rfl⟩ | ⟨rfl, rfl⟩ <;> exact ⟨rfl, rfl, by decide, by decide, by decide⟩
section RtW
variable {M : MD} {X : Option (Nat × (Nat → Int32))} {pc nx : Nat} {c : Int32} {cl : Int64} {lv : List (Option Value)} {st : List Value} {τ : Ty} {Q : Option Value → Ty → Prop}
theorem rt_getW1 {i wa wb : Nat} (hq : lk (mTab M) pc = some (.getfield i, nx, 9, 2, c, cl)) (hw : gW τ = (wa, wb)) (K : RT M X nx lv (.ref wa :: st) τ Q) : RT M X pc lv (.ref 38 :: st) τ Q := by
  refine rt_getR (r := 43) hq rfl ?_
  have e : swp τ 38 43 = (gW τ).1 := rfl
  rw [e, hw]
  exact K
theorem rt_getW2 {i wa wb : Nat} (hq : lk (mTab M) pc = some (.getfield i, nx, 9, 3, c, cl)) (hw : gW τ = (wa, wb)) (K : RT M X nx lv (.ref wb :: st) τ Q) : RT M X pc lv (.ref 38 :: st) τ Q := by
  refine rt_getR (r := 44) hq rfl ?_
  have e : swp τ 38 44 = (gW τ).2 := rfl
  rw [e, hw]
  exact K
theorem rt_g0 {i : Nat} (hq : lk (mTab M) pc = some (.getfield i, nx, 9, 0, c, cl)) (K : RT M X nx lv (.ref 39 :: st) τ Q) : RT M X pc lv (.ref 38 :: st) τ Q := rt_getR (r := 39) hq rfl K
theorem rt_g1 {i : Nat} (hq : lk (mTab M) pc = some (.getfield i, nx, 9, 1, c, cl)) (K : RT M X nx lv (.ref 42 :: st) τ Q) : RT M X pc lv (.ref 38 :: st) τ Q := rt_getR (r := 42) hq rfl K
theorem lay_sW {τ : Ty} (w : Nat × Nat) : (lay τ).set 38 (.inr (9, [.ref 39, .ref 42, .ref w.1, .ref w.2])) = lay (sW τ w) := by
  refine lay_set (s := .inr (9, [some 39, some 42, some 43, some 44])) rfl rfl (fun k' hk' => ⟨rfl, rfl, rfl, fun e => absurd e hk'⟩)
theorem rt_putW1 {i r : Nat} (hq : lk (mTab M) pc = some (.putfield i, nx, 9, 2, c, cl)) (K : RT M X nx lv st (sW τ (r, (gW τ).2)) Q) : RT M X pc lv (.ref r :: .ref 38 :: st) τ Q := fun bc bs => by
  refine rj_put0 (fs := [.ref 39, .ref 42, .ref (gW τ).1, .ref (gW τ).2]) hq (lay_get (s := .inr (9, [some 39, some 42, some 43, some 44])) rfl) (Nat.le_of_ble_eq_true rfl) (ty := .array .int) rfl (fun _ _ => rfl) (fun _ _ => rfl) ?_
  have := lay_sW (τ := τ) (r, (gW τ).2)
  show RJ M X bc bs nx lv st ((lay τ).set 38 (.inr (9, [.ref 39, .ref 42, .ref r, .ref (gW τ).2]))) _
  rw [this]
  exact K bc bs
theorem rt_putW2 {i r : Nat} (hq : lk (mTab M) pc = some (.putfield i, nx, 9, 3, c, cl)) (K : RT M X nx lv st (sW τ ((gW τ).1, r)) Q) : RT M X pc lv (.ref r :: .ref 38 :: st) τ Q := fun bc bs => by
  refine rj_put0 (fs := [.ref 39, .ref 42, .ref (gW τ).1, .ref (gW τ).2]) hq (lay_get (s := .inr (9, [some 39, some 42, some 43, some 44])) rfl) (Nat.le_of_ble_eq_true rfl) (ty := .array .int) rfl (fun _ _ => rfl) (fun _ _ => rfl) ?_
  have := lay_sW (τ := τ) ((gW τ).1, r)
  show RJ M X bc bs nx lv st ((lay τ).set 38 (.inr (9, [.ref 39, .ref 42, .ref (gW τ).1, .ref r]))) _
  rw [this]
  exact K bc bs
end RtW
abbrev CM : Nat := 1000000001
abbrev WF : Type := Nat → Nat → Nat
def addK (K : List Nat) (x : Nat) : List Nat := if x ∈ K then K else K ++ [x]
def RowsAt (τ : Ty) (k : Nat) (K : List Nat) (W : WF) : Prop := ∀ s c, K[s]? = some c → ∀ w, w < 10 → gI τ k (s * 10 + w) = nI (W c w)
def WFok (K : List Nat) (W : WF) : Prop := (∀ c w, W c w ≤ CM) ∧ ∀ c w, c ∉ K → W c w = 0
def NxOk (τ : Ty) (A : AE) (K : List Nat) : Prop := ∀ s c, K[s]? = some c → ∀ sg, sg < 8 → gI τ 42 (s * 8 + sg) = -1 ∨ ∃ t, K[t]? = some (nx A c sg) ∧ gI τ 42 (s * 8 + sg) = nI t
def TaIs (τ : Ty) (wa wb : Nat) (A : AE) (K : List Nat) (W T : WF) : Prop :=
  gW τ = (wa, wb) ∧ TabIs τ 39 (K.map lN) 400 ∧ (∀ c ∈ K, c < 33554432) ∧ NxOk τ A K ∧ RowsAt τ wa K W ∧ RowsAt τ wb K T ∧ WFok K W ∧ WFok K T
abbrev kTa : List Nat := [39, 40, 41, 42, 43, 44]
theorem lN_mem {K : List Nat} {c : Nat} (hK : ∀ c ∈ K, c < 33554432) (hc : c < 33554432) : lN c ∈ K.map lN ↔ c ∈ K := by
  rw [List.mem_map]
  constructor
  · rintro ⟨y, hy, he⟩
    have := hK y hy
    rw [← lN_inj (by omega) (by omega) he]
    exact hy
  · intro h
    exact ⟨c, h, rfl⟩
theorem neg1 {j : Nat} (hj : j < 1000000) : ¬ nI j = -1 := by
  intro e
  have h9 : (nI j).toInt = (j : Int) := nI_toInt (by omega)
  rw [e] at h9
  have h10 : (-1 : Int32).toInt = -1 := by decide
  omega
theorem kTa_E {k : Nat} (hk : isE k) : k ∉ kTa ∧ k + 1 ∉ kTa ∧ k + 2 ∉ kTa := by rcases hk with rfl | rfl | rfl | rfl | rfl <;> decide
theorem kTa_S {k : Nat} (hk : isS k) : k ∉ kTa ∧ k + 1 ∉ kTa ∧ k + 2 ∉ kTa ∧ k + 3 ∉ kTa ∧ k + 4 ∉ kTa := by rcases hk with rfl | rfl | rfl <;> decide
set_option maxHeartbeats 2000000 in
theorem stateOf_spec {wa wb c : Nat} {A : AE} {K : List Nat} {W T : WF} {τ : Ty} {Q : Option Value → Ty → Prop} (hw : isW wa wb) (hT : TaIs τ wa wb A K W T) (hc : c < 33554432)
    (h1 : ∀ t, K[t]? = some c → Q (some (.int (nI t))) τ) (h2 : c ∉ K → K.length < 400 → ∀ τ', Off kTa τ τ' → TaIs τ' wa wb A (K ++ [c]) W T → (∀ s, s < K.length * 8 → gI τ' 42 s = gI τ 42 s) → Q (some (.int (nI K.length))) τ') (h3 : c ∉ K → 400 ≤ K.length → Q (some (.int (-1))) τ) :
    RT mX9_stateOf none 0 [some (.ref 38), some (.int (nI c)), none, none, none] [] τ Q := by
  obtain ⟨w1, w2, w3, w4, w5⟩ := isW_f hw
  obtain ⟨t1, t2, t3, t4, t5, t6, t7, t8⟩ := id hT
  have hsz : gF τ 39 2 = nI K.length := by rw [t2.1, List.length_map]
  have hlen := t2.2.2.1
  rw [List.length_map] at hlen
  refine rt_run 1 rfl ?_
  refine rt_g0 rfl ?_
  refine rt_run 1 rfl ?_
  rw [hsz]
  refine rt_run 2 rfl ?_
  refine rt_g0 rfl ?_
  refine rt_run 2 rfl ?_
  rw [nI_l (by omega)]
  refine rt_cV (ci := 8) mX8_numberOf kX9_stateOf_14 okX8_numberOf rfl rfl rfl rfl rfl ?_
  refine numberOf_spec (Or.inl rfl) t2 (fun j hj => ?_) (fun hn hl => ?_) (fun hn hl τ1 hO1 hT1 => ?_)
  · have hj1 := (List.getElem?_eq_some_iff.mp hj).1
    rw [List.length_map] at hj1
    rw [List.getElem?_map] at hj
    obtain ⟨y, hy, he⟩ := Option.map_eq_some_iff.mp hj
    have hyc : y = c := lN_inj (by have := t3 y (List.mem_of_getElem? hy); omega) (by omega) he
    subst hyc
    refine rt_run 3 rfl ?_
    refine rt_ne j K.length rfl (by omega) (by omega) (fun _ => ?_) (fun e => by omega)
    refine rt_run 1 rfl ?_
    exact rt_iret rfl rfl (h1 j hy)
  · rw [List.length_map] at hl
    refine rt_run 3 rfl ?_
    refine rt_ic_ne rfl (fun _ => ?_) (fun hc => absurd hc.symm (neg1 (by omega)))
    refine rt_run 1 rfl ?_
    exact rt_iret rfl rfl (h3 (fun e => hn ((lN_mem t3 hc).mpr e)) (by omega))
  · rw [List.length_map] at hl ⊢
    have hnK : c ∉ K := fun e => hn ((lN_mem t3 hc).mpr e)
    have hOa : Off kTa τ τ1 := hO1.up (by simp)
    have e42 : gI τ1 42 = gI τ 42 := (hO1.1 42 (by decide)).1
    have ewa : gI τ1 wa = gI τ wa := (hO1.1 wa (by rcases hw with ⟨rfl, rfl⟩ | ⟨rfl, rfl⟩ <;> decide)).1
    have ewb : gI τ1 wb = gI τ wb := (hO1.1 wb (by rcases hw with ⟨rfl, rfl⟩ | ⟨rfl, rfl⟩ <;> decide)).1
    have eW1 : gW τ1 = (wa, wb) := hO1.2.trans t1
    refine rt_run 3 rfl ?_
    refine rt_ne K.length K.length rfl (by omega) (by omega) (fun e => absurd rfl e) (fun _ => ?_)
    have loop2 : ∀ d sg τ', sg + d = 8 → Off [42, 43, 44] τ1 τ' → gI τ' wa = gI τ' wa → (∀ j, j < K.length * 10 → gI τ' wa j = gI τ wa j ∧ gI τ' wb j = gI τ wb j) → (∀ w, w < 10 → gI τ' wa (K.length * 10 + w) = 0 ∧ gI τ' wb (K.length * 10 + w) = 0) → (∀ j, j < K.length * 8 → gI τ' 42 j = gI τ 42 j) → (∀ s, s < sg → gI τ' 42 (K.length * 8 + s) = -1) →
        RT mX9_stateOf none 68 [some (.ref 38), some (.int (nI c)), some (.int (nI K.length)), some (.int (nI K.length)), some (.int (nI sg))] [] τ' Q := by
      intro d
      induction d with
      | zero =>
        intro sg τ' hsg hO' _ hold hz hnold hnew
        refine rt_run 2 rfl ?_
        refine rt_ge sg 8 rfl (by omega) (by omega) (fun _ => ?_) (fun _ => by omega)
        refine rt_run 1 rfl ?_
        have hTab : TabIs τ' 39 ((K ++ [c]).map lN) 400 := by
          rw [List.map_append]
          exact hT1.off hO' (by decide)
        refine rt_iret rfl rfl (h2 hnK hl τ' (hOa.tr (hO'.up (by simp))) ⟨hO'.2.trans eW1, hTab, fun x hx => ?_, ?_, ?_, ?_, ⟨t7.1, fun x w hx => ?_⟩, ⟨t8.1, fun x w hx => ?_⟩⟩ hnold)
        · rcases List.mem_append.mp hx with hx | hx
          · exact t3 x hx
          · simp at hx; subst hx; exact hc
        · intro s x hx sg' hsg'
          rcases getApp hx with ⟨hs, hx⟩ | ⟨rfl, rfl⟩
          · rw [hnold _ (by omega)]
            rcases t4 s x hx sg' hsg' with h | ⟨t, ht, hv⟩
            · exact Or.inl h
            · refine Or.inr ⟨t, ?_, hv⟩
              rw [List.getElem?_append_left (List.getElem?_eq_some_iff.mp ht).1]
              exact ht
          · exact Or.inl (hnew sg' (by omega))
        · intro s x hx w hw'
          rcases getApp hx with ⟨hs, hx⟩ | ⟨rfl, rfl⟩
          · rw [(hold _ (by omega)).1]; exact t5 s x hx w hw'
          · rw [(hz w hw').1, t7.2 _ w hnK]; rfl
        · intro s x hx w hw'
          rcases getApp hx with ⟨hs, hx⟩ | ⟨rfl, rfl⟩
          · rw [(hold _ (by omega)).2]; exact t6 s x hx w hw'
          · rw [(hz w hw').2, t8.2 _ w hnK]; rfl
        · exact t7.2 x w (fun e => hx (List.mem_append_left _ e))
        · exact t8.2 x w (fun e => hx (List.mem_append_left _ e))
      | succ d ih =>
        intro sg τ' hsg hO' _ hold hz hnold hnew
        refine rt_run 2 rfl ?_
        refine rt_ge sg 8 rfl (by omega) (by omega) (fun _ => by omega) (fun _ => ?_)
        refine rt_run 1 rfl ?_
        refine rt_g1 rfl ?_
        refine rt_run 6 rfl ?_
        refine rt_st (K.length * 8 + sg) rfl (n := 3200) rfl (by omega) ?_ (by simp only [← nI_add, ← pk_mul]; rfl)
        refine rt_run 2 rfl ?_
        rw [← nI_succ]
        have n42 : ∀ x, x ∈ [43, 44] → gI (sI τ' 42 (K.length * 8 + sg) (-1)) x = gI τ' x := by
          intro x hx
          rw [gI_sI, if_neg (by intro e; subst e; revert hx; decide)]
        refine ih (sg + 1) _ (by omega) (hO'.sI (by simp) _ _) rfl (fun j hj => ?_) (fun w hw' => ?_) (fun j hj => ?_) (fun s hs => ?_)
        · rw [n42 wa w4, n42 wb w5]; exact hold j hj
        · rw [n42 wa w4, n42 wb w5]; exact hz w hw'
        · rw [gI_sI, if_pos rfl, pk_un (by omega)]; exact hnold j hj
        · rw [gI_sI, if_pos rfl]
          by_cases hss : s = sg
          · subst hss; rw [pk_us]
          · rw [pk_un (by omega)]; exact hnew s (by omega)
    have loop1 : ∀ d w τ', w + d = 10 → Off [42, 43, 44] τ1 τ' → gI τ' 42 = gI τ 42 → (∀ j, j < K.length * 10 → gI τ' wa j = gI τ wa j ∧ gI τ' wb j = gI τ wb j) → (∀ v, v < w → gI τ' wa (K.length * 10 + v) = 0 ∧ gI τ' wb (K.length * 10 + v) = 0) →
        RT mX9_stateOf none 26 [some (.ref 38), some (.int (nI c)), some (.int (nI K.length)), some (.int (nI K.length)), some (.int (nI w))] [] τ' Q := by
      intro d
      induction d with
      | zero =>
        intro w τ' hwd hO' h42 hold hz
        refine rt_run 2 rfl ?_
        refine rt_ge w 10 rfl (by omega) (by omega) (fun _ => ?_) (fun _ => by omega)
        refine rt_run 2 rfl ?_
        exact loop2 8 0 τ' (by omega) hO' rfl hold (fun v hv => hz v (by omega)) (fun j _ => by rw [h42]) (fun s hs => by omega)
      | succ d ih =>
        intro w τ' hwd hO' h42 hold hz
        have hW' : gW τ' = (wa, wb) := hO'.2.trans eW1
        refine rt_run 2 rfl ?_
        refine rt_ge w 10 rfl (by omega) (by omega) (fun _ => by omega) (fun _ => ?_)
        refine rt_run 1 rfl ?_
        refine rt_getW1 rfl hW' ?_
        refine rt_run 6 rfl ?_
        refine rt_st (K.length * 10 + w) rfl w1 (by omega) ?_ (by simp only [← nI_add, ← pk_mul]; rfl)
        refine rt_run 1 rfl ?_
        refine rt_getW2 rfl hW' ?_
        refine rt_run 6 rfl ?_
        refine rt_st (K.length * 10 + w) rfl w2 (by omega) ?_ (by simp only [← nI_add, ← pk_mul]; rfl)
        refine rt_run 2 rfl ?_
        rw [← nI_succ]
        have m43 : ∀ x, x ∈ [43, 44] → x ∈ [42, 43, 44] := by decide
        have n42 : ∀ x, x ∈ [43, 44] → x ≠ 42 := by decide
        refine ih (w + 1) _ (by omega) ((hO'.sI (m43 _ w4) _ _).sI (m43 _ w5) _ _) ?_ (fun j hj => ⟨?_, ?_⟩) (fun v hv => ⟨?_, ?_⟩)
        · rw [gI_sI, if_neg (fun e => n42 _ w5 e.symm), gI_sI, if_neg (fun e => n42 _ w4 e.symm)]; exact h42
        · rw [gI_sI, if_neg w3, gI_sI, if_pos rfl, pk_un (by omega)]; exact (hold j hj).1
        · rw [gI_sI, if_pos rfl, pk_un (by omega), gI_sI, if_neg (fun e => w3 e.symm)]; exact (hold j hj).2
        · rw [gI_sI, if_neg w3, gI_sI, if_pos rfl]
          by_cases hvw : v = w
          · subst hvw; rw [pk_us]
          · rw [pk_un (by omega)]; exact (hz v (by omega)).1
        · rw [gI_sI, if_pos rfl]
          by_cases hvw : v = w
          · subst hvw; rw [pk_us]
          · rw [pk_un (by omega), gI_sI, if_neg (fun e => w3 e.symm)]; exact (hz v (by omega)).2
    refine rt_run 2 rfl ?_
    exact loop1 10 0 τ1 (by omega) (Off.rf _ _) e42 (fun j _ => by rw [ewa, ewb]; exact ⟨rfl, rfl⟩) (fun v hv => by omega)
end
section
/-! Tally.stateBehind, advancesFrom -/
theorem ta_nodup {τ : Ty} {wa wb : Nat} {A : AE} {K : List Nat} {W T : WF} (h : TaIs τ wa wb A K W T) : K.Nodup := by
  have := h.2.1.2.2.2.2.1
  exact List.Pairwise.of_map lN (fun a b h e => h (by rw [e])) this
theorem nodup_ix {K : List Nat} (h : K.Nodup) {i j c : Nat} (hi : K[i]? = some c) (hj : K[j]? = some c) : i = j := by
  exact (List.getElem?_inj (List.getElem?_eq_some_iff.mp hi).1 h).mp (hi.trans hj.symm)
theorem TaIs.len {τ : Ty} {wa wb : Nat} {A : AE} {K : List Nat} {W T : WF} (h : TaIs τ wa wb A K W T) : K.length ≤ 400 := by
  have := h.2.1.2.2.1
  rwa [List.length_map] at this
theorem ta_off42 {τ : Ty} {i : Nat} {x : Int32} : Off [42] τ (sI τ 42 i x) := (Off.rf _ _).sI (by simp) _ _
theorem TaIs.setNx {τ : Ty} {wa wb s c sg t : Nat} {A : AE} {K : List Nat} {W T : WF} (hw : isW wa wb) (h : TaIs τ wa wb A K W T) (hs : K[s]? = some c) (hsg : sg < 8) (ht : K[t]? = some (nx A c sg)) : TaIs (sI τ 42 (s * 8 + sg) (nI t)) wa wb A K W T := by
  obtain ⟨w1, w2, w3, w4, w5⟩ := isW_f hw
  obtain ⟨t1, t2, t3, t4, t5, t6, t7, t8⟩ := id h
  have n42 : ∀ x, x ∈ [43, 44] → gI (sI τ 42 (s * 8 + sg) (nI t)) x = gI τ x := by
    intro x hx
    rw [gI_sI, if_neg (by intro e; subst e; revert hx; decide)]
  refine ⟨t1, t2.off ta_off42 (by decide), t3, fun s' c' hs' sg' hsg' => ?_, fun s' c' hs' w hw' => ?_, fun s' c' hs' w hw' => ?_, t7, t8⟩
  · rw [gI_sI, if_pos rfl]
    by_cases he : s' * 8 + sg' = s * 8 + sg
    · have e1 : s' = s := by omega
      have e2 : sg' = sg := by omega
      subst e1; subst e2
      rw [hs] at hs'
      cases hs'
      rw [pk_us]
      exact Or.inr ⟨t, ht, rfl⟩
    · rw [pk_un he]
      exact t4 s' c' hs' sg' hsg'
  · rw [n42 wa w4]; exact t5 s' c' hs' w hw'
  · rw [n42 wb w5]; exact t6 s' c' hs' w hw'
theorem addK_at {K : List Nat} {s c x : Nat} (h : K[s]? = some c) : (addK K x)[s]? = some c := by
  unfold addK
  split
  · exact h
  · rw [List.getElem?_append_left (List.getElem?_eq_some_iff.mp h).1]; exact h
theorem stateBehind_spec {ke wa wb s c sg : Nat} {A : AE} {K : List Nat} {W T : WF} {τ : Ty} {Q : Option Value → Ty → Prop} (hw : isW wa wb) (hke : isE ke) (hE : ExIs τ ke A) (hT : TaIs τ wa wb A K W T) (hs : K[s]? = some c) (hsg : sg < 8)
    (h1 : ∀ τ' t, Off kTa τ τ' → TaIs τ' wa wb A (addK K (nx A c sg)) W T → (addK K (nx A c sg))[t]? = some (nx A c sg) → (nx A c sg ∈ K ∨ K.length < 400) → Q (some (.int (nI t))) τ') (h2 : nx A c sg ∉ K → 400 ≤ K.length → ∀ τ', Off kTa τ τ' → Q (some (.int (-1))) τ') :
    RT mX9_stateBehind none 0 [some (.ref 38), some (.ref ke), some (.int (nI s)), some (.int (nI sg)), none] [] τ Q := by
  have hlen := hT.len
  have hsl := (List.getElem?_eq_some_iff.mp hs).1
  have hix : nI s * 8 + nI sg = nI (s * 8 + sg) := by simp only [← nI_add, ← pk_mul]; rfl
  refine rt_run 6 rfl ?_
  rw [hix]
  refine rt_run 1 rfl ?_
  refine rt_g1 rfl ?_
  refine rt_run 1 rfl ?_
  refine rt_ld (s * 8 + sg) rfl (n := 3200) rfl (by omega) ?_
  refine rt_run 1 rfl ?_
  refine rt_ic_ne rfl (fun hne => ?_) (fun heq => ?_)
  · rcases hT.2.2.2.1 s c hs sg hsg with h | ⟨t, ht, hv⟩
    · exact absurd h hne
    · have hin : nx A c sg ∈ K := List.mem_of_getElem? ht
      have hadd : addK K (nx A c sg) = K := by unfold addK; rw [if_pos hin]
      refine rt_run 1 rfl ?_
      refine rt_g1 rfl ?_
      refine rt_run 1 rfl ?_
      refine rt_ld (s * 8 + sg) rfl (n := 3200) rfl (by omega) ?_
      rw [hv]
      exact rt_iret rfl rfl (h1 τ t (Off.rf _ _) (by rw [hadd]; exact hT) (by rw [hadd]; exact ht) (Or.inl hin))
  · have hkey := hT.2.1.2.2.2.2.2.1 s (lN c) (by rw [List.getElem?_map, hs]; rfl)
    refine rt_run 1 rfl ?_
    refine rt_g1 rfl ?_
    refine rt_run 4 rfl ?_
    refine rt_g0 rfl ?_
    refine rt_run 2 rfl ?_
    refine rt_ldL s rfl (n := 400) rfl (by omega) ?_
    rw [hkey]
    refine rt_run 2 rfl ?_
    rw [lN_i]
    refine rt_cV (ci := 2) mX2_after kX9_stateBehind_38 okX2_after (isE_s hke) rfl rfl rfl rfl ?_
    refine after_specN hke hE hsg ?_
    refine rt_cV (ci := 9) mX9_stateOf kX9_stateBehind_41 okX9_stateOf rfl rfl rfl rfl rfl ?_
    have fin : ∀ τ' K' t, Off kTa τ τ' → TaIs τ' wa wb A K' W T → K' = addK K (nx A c sg) → K'[s]? = some c → K'[t]? = some (nx A c sg) → (nx A c sg ∈ K ∨ K.length < 400) →
        RT mX9_stateBehind none 44 [some (.ref 38), some (.ref ke), some (.int (nI s)), some (.int (nI sg)), some (.int (nI (s * 8 + sg)))] [.int (nI t), .int (nI (s * 8 + sg)), .ref 42] τ' Q := by
      intro τ' K' t hO hT' hK' hs' ht hor
      refine rt_st (s * 8 + sg) rfl (n := 3200) rfl (by omega) ?_
      refine rt_run 1 rfl ?_
      refine rt_g1 rfl ?_
      refine rt_run 1 rfl ?_
      refine rt_ld (s * 8 + sg) rfl (n := 3200) rfl (by omega) ?_
      rw [show gI (sI τ' 42 (s * 8 + sg) (nI t)) 42 (s * 8 + sg) = nI t by rw [gI_sI, if_pos rfl, pk_us]]
      refine rt_iret rfl rfl (h1 _ t (hO.sI (by simp) _ _) ?_ (by rw [← hK']; exact ht) hor)
      rw [← hK']
      exact hT'.setNx hw hs' hsg ht
    refine stateOf_spec hw hT (nx_lt _ _ _) (fun t ht => ?_) (fun hn hl τ' hO hT' _ => ?_) (fun hn hl => ?_)
    · have hin : nx A c sg ∈ K := List.mem_of_getElem? ht
      have hadd : addK K (nx A c sg) = K := by unfold addK; rw [if_pos hin]
      exact fin τ K t (Off.rf _ _) hT hadd.symm hs ht (Or.inl hin)
    · have hadd : addK K (nx A c sg) = K ++ [nx A c sg] := by unfold addK; rw [if_neg hn]
      refine fin τ' (K ++ [nx A c sg]) K.length hO hT' hadd.symm ?_ ?_ (Or.inr hl)
      · rw [List.getElem?_append_left hsl]; exact hs
      · rw [List.getElem?_append_right (Nat.le_refl _), Nat.sub_self]; rfl
    · refine rt_st (s * 8 + sg) rfl (n := 3200) rfl (by omega) ?_
      refine rt_run 1 rfl ?_
      refine rt_g1 rfl ?_
      refine rt_run 1 rfl ?_
      refine rt_ld (s * 8 + sg) rfl (n := 3200) rfl (by omega) ?_
      rw [show gI (sI τ 42 (s * 8 + sg) (-1)) 42 (s * 8 + sg) = -1 by rw [gI_sI, if_pos rfl, pk_us]]
      exact rt_iret rfl rfl (h2 hn hl _ ((Off.rf _ _).sI (by simp) _ _))
def updT (T : WF) (x w v : Nat) : WF := fun c' w' => if c' = x ∧ w' = w then v else T c' w'
def adv1 (A : AE) (W : WF) (c : Nat) (st : Nat × Nat × Nat × Nat) (KT : List Nat × WF) : Option (List Nat × WF) :=
  if W c st.1 = 0 then some KT else if nx A c st.2.1 ∈ KT.1 ∨ KT.1.length < 400 then some (addK KT.1 (nx A c st.2.1), updT KT.2 (nx A c st.2.1) st.2.2.1 (min CM (KT.2 (nx A c st.2.1) st.2.2.1 + W c st.1))) else none
def advN (A : AE) (W : WF) (c : Nat) (L : SL) (KT : List Nat × WF) : Nat → Option (List Nat × WF)
  | 0 => some KT
  | i + 1 => (advN A W c L KT i).bind (fun KT' => match L[i]? with
    | some st => adv1 A W c st KT'
    | none => some KT')
theorem advN_s {A : AE} {W : WF} {c i : Nat} {L : SL} {KT KT' : List Nat × WF} {st : Nat × Nat × Nat × Nat} (h : advN A W c L KT i = some KT') (hq : L[i]? = some st) : advN A W c L KT (i + 1) = adv1 A W c st KT' := by
  show (advN A W c L KT i).bind _ = _
  rw [h]
  show (match L[i]? with
    | some st => adv1 A W c st KT'
    | none => some KT') = _
  rw [hq]
theorem advN_none {A : AE} {W : WF} {c i t : Nat} {L : SL} {KT : List Nat × WF} (h : advN A W c L KT i = none) (hit : i ≤ t) : advN A W c L KT t = none := by
  induction t with
  | zero => have : i = 0 := by omega
            subst this; exact h
  | succ t ih =>
    by_cases hs : i = t + 1
    · subst hs; exact h
    · unfold advN
      rw [ih (by omega)]; rfl
theorem TaIs.setT {τ : Ty} {wa wb t x w v : Nat} {A : AE} {K : List Nat} {W T : WF} (hw : isW wa wb) (h : TaIs τ wa wb A K W T) (ht : K[t]? = some x) (hww : w < 10) (hv : v ≤ CM) : TaIs (sI τ wb (t * 10 + w) (nI v)) wa wb A K W (updT T x w v) := by
  obtain ⟨w1, w2, w3, w4, w5⟩ := isW_f hw
  have hnd := ta_nodup h
  obtain ⟨t1, t2, t3, t4, t5, t6, t7, t8⟩ := id h
  have hoff : Off [wb] τ (sI τ wb (t * 10 + w) (nI v)) := (Off.rf _ _).sI (by simp) _ _
  refine ⟨t1, t2.off hoff (by rcases hw with ⟨rfl, rfl⟩ | ⟨rfl, rfl⟩ <;> decide), t3, fun s' c' hs' sg' hsg' => ?_, fun s' c' hs' w' hw' => ?_, fun s' c' hs' w' hw' => ?_, t7, ⟨fun c' w' => ?_, fun c' w' hc' => ?_⟩⟩
  · rw [gI_sI, if_neg (by rcases hw with ⟨rfl, rfl⟩ | ⟨rfl, rfl⟩ <;> decide)]
    exact t4 s' c' hs' sg' hsg'
  · rw [gI_sI, if_neg w3]; exact t5 s' c' hs' w' hw'
  · rw [gI_sI, if_pos rfl]
    unfold updT
    by_cases he : s' * 10 + w' = t * 10 + w
    · have e1 : s' = t := by omega
      have e2 : w' = w := by omega
      subst e1; subst e2
      rw [ht] at hs'
      cases hs'
      rw [pk_us, if_pos ⟨rfl, rfl⟩]
    · rw [pk_un he, if_neg]
      · exact t6 s' c' hs' w' hw'
      · rintro ⟨rfl, rfl⟩
        have := nodup_ix hnd hs' ht
        subst this
        exact he rfl
  · unfold updT
    split
    · exact hv
    · exact t8.1 c' w'
  · unfold updT
    rw [if_neg]
    · exact t8.2 c' w' hc'
    · rintro ⟨rfl, -⟩
      exact hc' (List.mem_of_getElem? ht)
theorem minI {a : Nat} (ha : a < 2 ^ 31) : (if nI a < 1000000001 then nI a else (1000000001 : Int32)) = nI (min CM a) := by
  have e : (1000000001 : Int32) = nI CM := rfl
  by_cases h : a < CM
  · rw [e, if_pos (nI_lt h (by decide)), Nat.min_eq_right (by omega)]
  · rw [e, if_neg (nI_nlt (by omega) ha), Nat.min_eq_left (by omega)]
set_option maxHeartbeats 2000000 in
theorem advancesFrom_spec {ke ks wa wb s c : Nat} {A : AE} {L : SL} {K : List Nat} {W T : WF} {τ : Ty} {Q : Option Value → Ty → Prop} (hw : isW wa wb) (hke : isE ke) (hks : isS ks) (hE : ExIs τ ke A) (hS : StIs τ ks L) (hL : StOk L) (hT : TaIs τ wa wb A K W T) (hs : K[s]? = some c)
    (h1 : ∀ τ' K' T', advN A W c L (K, T) L.length = some (K', T') → Off kTa τ τ' → TaIs τ' wa wb A K' W T' → K'[s]? = some c → Q (some (.int 1)) τ') (h2 : advN A W c L (K, T) L.length = none → ∀ τ', Off kTa τ τ' → Q (some (.int 0)) τ') :
    RT mX9_advancesFrom none 0 [some (.ref 38), some (.ref ke), some (.ref ks), some (.int (nI s)), none, none, none, none] [] τ Q := by
  obtain ⟨w1, w2, w3, w4, w5⟩ := isW_f hw
  obtain ⟨s0, s1, s2, s3, s4, b0, b1, b2, b3, q38⟩ := isS_f hks
  have hl := hL.1
  have loop : ∀ d i τ' K' T' (x5 x6 x7 : Option Value), i + d = L.length → Off kTa τ τ' → advN A W c L (K, T) i = some (K', T') → TaIs τ' wa wb A K' W T' → K'[s]? = some c → RT mX9_advancesFrom none 3 [some (.ref 38), some (.ref ke), some (.ref ks), some (.int (nI s)), some (.int (nI i)), x5, x6, x7] [] τ' Q := by
    intro d
    induction d with
    | zero =>
      intro i τ' K' T' x5 x6 x7 hi hO ha hT' hs'
      have hS' := hS.off hO (kTa_S hks)
      refine rt_run 2 rfl ?_
      refine rt_getI rfl s4 ?_
      refine rt_ge i L.length rfl (by omega) (by omega) (fun _ => ?_) (fun _ => by omega) rfl hS'.1
      refine rt_run 1 rfl ?_
      rw [show i = L.length by omega] at ha
      exact rt_zret rfl rfl (Or.inr rfl) (h1 τ' K' T' ha hO hT' hs')
    | succ d ih =>
      intro i τ' K' T' x5 x6 x7 hi hO ha hT' hs'
      have hS' := hS.off hO (kTa_S hks)
      have hE' := hE.off hO (kTa_E hke)
      have hlen := hT'.len
      have hsl := (List.getElem?_eq_some_iff.mp hs').1
      refine rt_run 2 rfl ?_
      refine rt_getI rfl s4 ?_
      refine rt_ge i L.length rfl (by omega) (by omega) (fun _ => by omega) (fun hlt => ?_) rfl hS'.1
      have hq : L[i]? = some L[i] := List.getElem?_eq_getElem hlt
      obtain ⟨g1, g2, g3, g4⟩ := hS'.2 i _ hq
      obtain ⟨c1, c2, c3⟩ := hL.2 _ (List.getElem_mem hlt)
      have hnext := advN_s ha hq
      refine rt_run 1 rfl ?_
      refine rt_getW1 rfl hT'.1 ?_
      refine rt_run 4 rfl ?_
      refine rt_getQ rfl s0 q38 ?_
      refine rt_run 1 rfl ?_
      refine rt_ld i rfl b0 (by omega) ?_
      rw [g1]
      refine rt_run 1 rfl ?_
      refine rt_ld (s * 10 + L[i].1) rfl w1 (by omega) ?_ (by simp only [← nI_add, ← pk_mul]; rfl)
      rw [hT'.2.2.2.2.1 s c hs' _ c1]
      have hWb : W c L[i].1 ≤ 1000000001 := hT'.2.2.2.2.2.2.1.1 c L[i].1
      refine rt_run 2 rfl ?_
      refine rt_if_eq rfl (fun hz => ?_) (fun hz => ?_)
      · have hz0 : W c L[i].1 = 0 := by
          by_cases h0 : W c L[i].1 = 0
          · exact h0
          · exact absurd hz (nI_ne0 (by omega) (by omega))
        refine rt_run 2 rfl ?_
        rw [← nI_succ]
        refine ih (i + 1) τ' K' T' _ _ _ (by omega) hO ?_ hT' hs'
        rw [hnext]
        unfold adv1
        rw [if_pos hz0]
      · have hz0 : ¬ W c L[i].1 = 0 := fun e => hz (by rw [e]; rfl)
        refine rt_run 4 rfl ?_
        refine rt_getQ rfl s1 q38 ?_
        refine rt_run 1 rfl ?_
        refine rt_ld i rfl b1 (by omega) ?_
        rw [g2]
        refine rt_cV (ci := 9) mX9_stateBehind kX9_advancesFrom_46 okX9_stateBehind rfl rfl rfl rfl rfl ?_
        refine stateBehind_spec hw hke hE' hT' hs' c2 (fun τ2 t hO2 hT2 ht hor => ?_) (fun hn hfull τ2 hO2 => ?_)
        · have hS2 := hS'.off hO2 (kTa_S hks)
          obtain ⟨k1, k2, k3, k4⟩ := hS2.2 i _ hq
          have htl := (List.getElem?_eq_some_iff.mp ht).1
          have hlen2 := hT2.len
          have hTb : T' (nx A c L[i].2.1) L[i].2.2.1 ≤ 1000000001 := hT2.2.2.2.2.2.2.2.1 (nx A c L[i].2.1) L[i].2.2.1
          refine rt_run 3 rfl ?_
          refine rt_ic_ne rfl (fun _ => ?_) (fun hc => absurd hc (neg1 (by omega)))
          refine rt_run 4 rfl ?_
          refine rt_getQ rfl s2 q38 ?_
          refine rt_run 1 rfl ?_
          refine rt_ld i rfl b2 (by omega) ?_
          rw [k3]
          have hcell : nI t * 10 + nI L[i].2.2.1 = nI (t * 10 + L[i].2.2.1) := by simp only [← nI_add, ← pk_mul]; rfl
          refine rt_run 3 rfl ?_
          rw [hcell]
          refine rt_getW2 rfl hT2.1 ?_
          refine rt_run 3 rfl ?_
          refine rt_getW2 rfl hT2.1 ?_
          refine rt_run 1 rfl ?_
          refine rt_ld (t * 10 + L[i].2.2.1) rfl w2 (by omega) ?_
          rw [hT2.2.2.2.2.2.1 t _ ht _ c3]
          refine rt_run 2 rfl ?_
          refine rt_min rfl (by decide +kernel) (by decide) (Nat.le_of_ble_eq_true rfl) ?_
          rw [nI_add, minI (by omega)]
          refine rt_st (t * 10 + L[i].2.2.1) rfl w2 (by omega) ?_
          refine rt_run 2 rfl ?_
          rw [← nI_succ]
          refine ih (i + 1) _ (addK K' (nx A c L[i].2.1)) (updT T' (nx A c L[i].2.1) L[i].2.2.1 (min CM (T' (nx A c L[i].2.1) L[i].2.2.1 + W c L[i].1))) _ _ _ (by omega) ((hO.tr hO2).sI (by rcases hw with ⟨rfl, rfl⟩ | ⟨rfl, rfl⟩ <;> decide) _ _) ?_ (hT2.setT hw ht c3 (Nat.min_le_left _ _)) (addK_at hs')
          rw [hnext]
          unfold adv1
          rw [if_neg hz0, if_pos hor]
        · refine rt_run 3 rfl ?_
          refine rt_ic_ne rfl (fun hc => absurd rfl hc) (fun _ => ?_)
          refine rt_run 1 rfl ?_
          refine rt_zret rfl rfl (Or.inl rfl) (h2 ?_ τ2 (hO.tr hO2))
          refine advN_none (i := i + 1) ?_ (by omega)
          rw [hnext]
          unfold adv1
          rw [if_neg hz0, if_neg]
          rintro (h | h)
          · exact hn h
          · exact absurd h (by show ¬ K'.length < 400; omega)
  refine rt_run 2 rfl ?_
  exact loop L.length 0 τ K T none none none (by omega) (Off.rf _ _) rfl hT hs
end
section
/-! Tally.advances, total, routesOf -/
/-- only the cells of a list have changed, or which rows 'ways' and 'waysThen' are -/
def OffW (ks : List Nat) (τ τ' : Ty) : Prop := ∀ k, k ∉ ks → gI τ' k = gI τ k ∧ gL τ' k = gL τ k ∧ gF τ' k = gF τ k
theorem Off.w {ks : List Nat} {τ τ' : Ty} (h : Off ks τ τ') : OffW ks τ τ' := h.1
theorem OffW.rf (ks : List Nat) (τ : Ty) : OffW ks τ τ := fun _ _ => ⟨rfl, rfl, rfl⟩
theorem OffW.tr {ks : List Nat} {τ τ' τ'' : Ty} (h : OffW ks τ τ') (h' : OffW ks τ' τ'') : OffW ks τ τ'' :=
  fun k hk => ⟨(h' k hk).1.trans (h k hk).1, (h' k hk).2.1.trans (h k hk).2.1, (h' k hk).2.2.trans (h k hk).2.2⟩
theorem OffW.to {ks : List Nat} {τ τ' : Ty} (h : OffW ks τ τ') : Off ks τ (sW τ' (gW τ)) := ⟨h, rfl⟩
theorem ExIs.offW {ks : List Nat} {τ τ' : Ty} {k : Nat} {A : AE} (h : ExIs τ k A) (ho : OffW ks τ τ') (h1 : k ∉ ks ∧ k + 1 ∉ ks ∧ k + 2 ∉ ks) : ExIs τ' k A := by
  have := h.off (τ' := sW τ' (gW τ)) ho.to h1
  exact this
theorem StIs.offW {ks : List Nat} {τ τ' : Ty} {k : Nat} {L : SL} (h : StIs τ k L) (ho : OffW ks τ τ') (h1 : k ∉ ks ∧ k + 1 ∉ ks ∧ k + 2 ∉ ks ∧ k + 3 ∉ ks ∧ k + 4 ∉ ks) : StIs τ' k L := by
  have := h.off (τ' := sW τ' (gW τ)) ho.to h1
  exact this
theorem EdIs.offW {ks : List Nat} {τ τ' : Ty} {G : Gr} (h : EdIs τ G) (ho : OffW ks τ τ') (h1 : 1 ∉ ks ∧ 2 ∉ ks ∧ 3 ∉ ks ∧ 4 ∉ ks) : EdIs τ' G := by
  have := h.off (τ' := sW τ' (gW τ)) ho.to h1
  exact this
theorem advN_congr {A : AE} {W W' : WF} {c : Nat} {L : SL} {KT : List Nat × WF} (h : ∀ w, W c w = W' c w) (n : Nat) : advN A W c L KT n = advN A W' c L KT n := by
  induction n with
  | zero => rfl
  | succ n ih =>
    unfold advN
    rw [ih]
    congr 1
    funext KT'
    cases L[n]? with
    | none => rfl
    | some st => simp only [adv1, h]
theorem adv1_pre {A : AE} {W : WF} {c : Nat} {st : Nat × Nat × Nat × Nat} {KT KT' : List Nat × WF} (h : adv1 A W c st KT = some KT') : ∃ T, KT'.1 = KT.1 ++ T := by
  unfold adv1 at h
  split at h
  · cases h; exact ⟨[], by simp⟩
  · split at h
    · cases h
      unfold addK
      split
      · exact ⟨[], by simp⟩
      · exact ⟨_, rfl⟩
    · cases h
theorem advN_pre {A : AE} {W : WF} {c : Nat} {L : SL} {KT KT' : List Nat × WF} {n : Nat} (h : advN A W c L KT n = some KT') : ∃ T, KT'.1 = KT.1 ++ T := by
  induction n generalizing KT' with
  | zero => cases h; exact ⟨[], by simp⟩
  | succ n ih =>
    unfold advN at h
    obtain ⟨K1, h1, h2⟩ := Option.bind_eq_some_iff.mp h
    obtain ⟨T1, e1⟩ := ih h1
    cases hq : L[n]? with
    | none => rw [hq] at h2; cases h2; exact ⟨T1, e1⟩
    | some st =>
      rw [hq] at h2
      obtain ⟨T2, e2⟩ := adv1_pre h2
      exact ⟨T1 ++ T2, by rw [e2, e1]; simp⟩
def alN (A : AE) (L : SL) (K : List Nat) (W : WF) : Nat → Option (List Nat × WF)
  | 0 => some (K, fun _ _ => 0)
  | s + 1 => (alN A L K W s).bind (fun KT => match K[s]? with
    | some c => if c = 0 then some KT else advN A W c L KT L.length
    | none => some KT)
theorem alN_s {A : AE} {W : WF} {c s : Nat} {L : SL} {K : List Nat} {KT : List Nat × WF} (h : alN A L K W s = some KT) (hq : K[s]? = some c) : alN A L K W (s + 1) = if c = 0 then some KT else advN A W c L KT L.length := by
  show (alN A L K W s).bind _ = _
  rw [h]
  show (match K[s]? with
    | some c => if c = 0 then some KT else advN A W c L KT L.length
    | none => some KT) = _
  rw [hq]
theorem alN_none {A : AE} {W : WF} {s t : Nat} {L : SL} {K : List Nat} (h : alN A L K W s = none) (hst : s ≤ t) : alN A L K W t = none := by
  induction t with
  | zero => have : s = 0 := by omega
            subst this; exact h
  | succ t ih =>
    by_cases hs : s = t + 1
    · subst hs; exact h
    · unfold alN
      rw [ih (by omega)]; rfl
theorem alN_pre {A : AE} {L : SL} {K : List Nat} {W : WF} {KT' : List Nat × WF} {n : Nat} (h : alN A L K W n = some KT') : ∃ T, KT'.1 = K ++ T := by
  induction n generalizing KT' with
  | zero => cases h; exact ⟨[], by simp⟩
  | succ n ih =>
    unfold alN at h
    obtain ⟨K1, h1, h2⟩ := Option.bind_eq_some_iff.mp h
    obtain ⟨T1, e1⟩ := ih h1
    cases hq : K[n]? with
    | none => rw [hq] at h2; cases h2; exact ⟨T1, e1⟩
    | some c =>
      rw [hq] at h2
      by_cases hc : c = 0
      · simp only [if_pos hc] at h2; cases h2; exact ⟨T1, e1⟩
      · simp only [if_neg hc] at h2
        obtain ⟨T2, e2⟩ := advN_pre h2
        exact ⟨T1 ++ T2, by rw [e2, e1]; simp⟩
def zW (K : List Nat) (s : Nat) (W : WF) : WF := fun c w => if c ∈ K.take s then 0 else W c w
def zP (c n : Nat) (W : WF) : WF := fun c' w' => if c' = c ∧ w' < n then 0 else W c' w'
theorem TaIs.zero {τ : Ty} {wa wb s c w : Nat} {A : AE} {K : List Nat} {W T : WF} (hw : isW wa wb) (h : TaIs τ wa wb A K (zP c w W) T) (hs : K[s]? = some c) (hww : w < 10) : TaIs (sI τ wa (s * 10 + w) 0) wa wb A K (zP c (w + 1) W) T := by
  obtain ⟨w1, w2, w3, w4, w5⟩ := isW_f hw
  have hnd := ta_nodup h
  obtain ⟨t1, t2, t3, t4, t5, t6, t7, t8⟩ := id h
  have hoff : Off [wa] τ (sI τ wa (s * 10 + w) 0) := (Off.rf _ _).sI (by simp) _ _
  refine ⟨t1, t2.off hoff (by rcases hw with ⟨rfl, rfl⟩ | ⟨rfl, rfl⟩ <;> decide), t3, fun s' c' hs' sg' hsg' => ?_, fun s' c' hs' w' hw' => ?_, fun s' c' hs' w' hw' => ?_, ⟨fun c' w' => ?_, fun c' w' hc' => ?_⟩, t8⟩
  · rw [gI_sI, if_neg (by rcases hw with ⟨rfl, rfl⟩ | ⟨rfl, rfl⟩ <;> decide)]
    exact t4 s' c' hs' sg' hsg'
  · rw [gI_sI, if_pos rfl]
    by_cases he : s' * 10 + w' = s * 10 + w
    · have e1 : s' = s := by omega
      have e2 : w' = w := by omega
      subst e1; subst e2
      rw [hs] at hs'
      cases hs'
      rw [pk_us]
      unfold zP
      rw [if_pos ⟨rfl, by omega⟩]; rfl
    · rw [pk_un he, t5 s' c' hs' w' hw']
      unfold zP
      by_cases hcc : c' = c
      · subst hcc
        have := nodup_ix hnd hs' hs
        subst this
        have : (w' < w + 1) ↔ w' < w := by omega
        simp only [this]
      · simp [hcc]
  · rw [gI_sI, if_neg (fun e => w3 e.symm)]; exact t6 s' c' hs' w' hw'
  · have := t7.1 c' w'
    unfold zP at *
    by_cases h1 : c' = c ∧ w' < w + 1
    · rw [if_pos h1]; exact Nat.zero_le _
    · rw [if_neg h1]
      rw [if_neg (fun hh => h1 ⟨hh.1, by omega⟩)] at this
      exact this
  · have := t7.2 c' w' hc'
    unfold zP at *
    by_cases h1 : c' = c ∧ w' < w + 1
    · rw [if_pos h1]
    · rw [if_neg h1]
      rw [if_neg (fun hh => h1 ⟨hh.1, by omega⟩)] at this
      exact this
set_option maxHeartbeats 2000000 in
theorem advances_spec {ke ks wa wb : Nat} {A : AE} {L : SL} {K : List Nat} {W : WF} {τ : Ty} {Q : Option Value → Ty → Prop} (hw : isW wa wb) (hke : isE ke) (hks : isS ks) (hE : ExIs τ ke A) (hS : StIs τ ks L) (hL : StOk L) (hT : TaIs τ wa wb A K W (fun _ _ => 0))
    (h1 : ∀ τ' K' T', alN A L K W K.length = some (K', T') → OffW kTa τ τ' → TaIs τ' wb wa A K' T' (fun _ _ => 0) → Q (some (.int 1)) τ') (h2 : alN A L K W K.length = none → ∀ τ', Off kTa τ τ' → Q (some (.int 0)) τ') :
    RT mX9_advances none 0 [some (.ref 38), some (.ref ke), some (.ref ks), none, none, none] [] τ Q := by
  obtain ⟨w1, w2, w3, w4, w5⟩ := isW_f hw
  have hlen := hT.len
  have hnd := ta_nodup hT
  have hsz : gF τ 39 2 = nI K.length := by rw [hT.2.1.1, List.length_map]
  have loop : ∀ d s τ' K' T' (x5 : Option Value), s + d = K.length → Off kTa τ τ' → alN A L K W s = some (K', T') → TaIs τ' wa wb A K' (zW K s W) T' → RT mX9_advances none 11 [some (.ref 38), some (.ref ke), some (.ref ks), some (.int (nI K.length)), some (.int (nI s)), x5] [] τ' Q := by
    intro d
    induction d with
    | zero =>
      intro s τ' K' T' x5 hs hO ha hT'
      have hsl : s = K.length := by omega
      subst hsl
      refine rt_run 2 rfl ?_
      refine rt_ge K.length K.length rfl (by omega) (by omega) (fun _ => ?_) (fun _ => by omega)
      refine rt_run 1 rfl ?_
      refine rt_getW1 rfl hT'.1 ?_
      refine rt_run 3 rfl ?_
      refine rt_getW2 rfl hT'.1 ?_
      refine rt_putW1 rfl ?_
      refine rt_run 2 rfl ?_
      refine rt_putW2 rfl ?_
      refine rt_run 1 rfl ?_
      refine rt_zret rfl rfl (Or.inr rfl) (h1 _ K' T' ha (fun k hk => hO.1 k hk) ?_)
      have hz : zW K K.length W = fun _ _ => 0 := by
        funext c w
        unfold zW
        rw [List.take_length]
        by_cases hc : c ∈ K
        · rw [if_pos hc]
        · rw [if_neg hc]; exact hT.2.2.2.2.2.2.1.2 c w hc
      rw [hz] at hT'
      obtain ⟨t1, t2, t3, t4, t5, t6, t7, t8⟩ := hT'
      exact ⟨rfl, t2, t3, t4, t6, t5, t8, t7⟩
    | succ d ih =>
      intro s τ' K' T' x5 hs hO ha hT'
      have hslt : s < K.length := by omega
      have hq : K[s]? = some K[s] := List.getElem?_eq_getElem hslt
      obtain ⟨T0, hpre⟩ := alN_pre ha
      have hpre : K' = K ++ T0 := hpre
      have hs' : K'[s]? = some K[s] := by rw [hpre, List.getElem?_append_left hslt]; exact hq
      have hkey := hT'.2.1.2.2.2.2.2.1 s (lN K[s]) (by rw [List.getElem?_map, hs']; rfl)
      have hlen' := hT'.len
      have hnext := alN_s ha hq
      have hcl := hT'.2.2.1 _ (List.mem_of_getElem? hs')
      have hnt : K[s] ∉ K.take s := by
        intro hin
        obtain ⟨j, hj⟩ := List.getElem?_of_mem hin
        have hj1 := (List.getElem?_eq_some_iff.mp hj).1
        rw [List.length_take] at hj1
        rw [List.getElem?_take] at hj
        split at hj
        · have := nodup_ix hnd hj hq
          omega
        · cases hj
      refine rt_run 2 rfl ?_
      refine rt_ge s K.length rfl (by omega) (by omega) (fun _ => by omega) (fun _ => ?_)
      refine rt_run 1 rfl ?_
      refine rt_g0 rfl ?_
      refine rt_run 2 rfl ?_
      refine rt_ldL s rfl (n := 400) rfl (by omega) ?_
      rw [hkey]
      refine rt_run 2 rfl ?_
      have zero : ∀ τ2 K2 T2 (y5 : Option Value), Off kTa τ τ2 → alN A L K W (s + 1) = some (K2, T2) → TaIs τ2 wa wb A K2 (zW K s W) T2 → K2[s]? = some K[s] → RT mX9_advances none 45 [some (.ref 38), some (.ref ke), some (.ref ks), some (.int (nI K.length)), some (.int (nI s)), y5] [] τ2 Q := by
        intro τ2 K2 T2 y5 hO2 ha2 hT2 hs2
        have hlen2 := hT2.len
        have hs2l := (List.getElem?_eq_some_iff.mp hs2).1
        have zl : ∀ d2 w τ3, w + d2 = 10 → Off kTa τ τ3 → TaIs τ3 wa wb A K2 (zP K[s] w (zW K s W)) T2 → RT mX9_advances none 48 [some (.ref 38), some (.ref ke), some (.ref ks), some (.int (nI K.length)), some (.int (nI s)), some (.int (nI w))] [] τ3 Q := by
          intro d2
          induction d2 with
          | zero =>
            intro w τ3 hwd hO3 hT3
            refine rt_run 2 rfl ?_
            refine rt_ge w 10 rfl (by omega) (by omega) (fun _ => ?_) (fun _ => by omega)
            refine rt_run 2 rfl ?_
            rw [← nI_succ]
            refine ih (s + 1) τ3 K2 T2 _ (by omega) hO3 ha2 ?_
            have hrow : ∀ (s' c' : Nat), K2[s']? = some c' → ∀ w', w' < 10 → zP K[s] w (zW K s W) c' w' = zW K (s + 1) W c' w' := by
              intro s' c' _ w' hw'
              have hmem : c' ∈ K.take (s + 1) ↔ c' ∈ K.take s ∨ c' = K[s] := by
                rw [List.take_add_one, hq, List.mem_append, Option.toList_some, List.mem_singleton]
              unfold zP zW
              by_cases hcc : c' = K[s]
              · rw [if_pos ⟨hcc, by omega⟩, if_pos (hmem.mpr (Or.inr hcc))]
              · rw [if_neg (fun hh => hcc hh.1)]
                by_cases hct : c' ∈ K.take s
                · rw [if_pos hct, if_pos (hmem.mpr (Or.inl hct))]
                · rw [if_neg hct, if_neg (fun hh => (hmem.mp hh).elim hct hcc)]
            obtain ⟨t1, t2, t3, t4, t5, t6, t7, t8⟩ := hT3
            refine ⟨t1, t2, t3, t4, fun s' c' hs' w' hw' => by rw [← hrow s' c' hs' w' hw']; exact t5 s' c' hs' w' hw', t6, ⟨fun c' w' => ?_, fun c' w' hc' => ?_⟩, t8⟩
            · unfold zW
              split
              · exact Nat.zero_le _
              · exact hT.2.2.2.2.2.2.1.1 c' w'
            · unfold zW
              split
              · rfl
              · refine hT.2.2.2.2.2.2.1.2 c' w' (fun hin => hc' ?_)
                obtain ⟨T5, hp5⟩ := alN_pre ha2
                have hp5 : K2 = K ++ T5 := hp5
                rw [hp5]
                exact List.mem_append_left _ hin
          | succ d2 ih2 =>
            intro w τ3 hwd hO3 hT3
            refine rt_run 2 rfl ?_
            refine rt_ge w 10 rfl (by omega) (by omega) (fun _ => by omega) (fun _ => ?_)
            refine rt_run 1 rfl ?_
            refine rt_getW1 rfl hT3.1 ?_
            refine rt_run 6 rfl ?_
            refine rt_st (s * 10 + w) rfl w1 (by omega) ?_ (by simp only [← nI_add, ← pk_mul]; rfl)
            refine rt_run 2 rfl ?_
            rw [← nI_succ]
            exact ih2 (w + 1) _ (by omega) (hO3.sI (by rcases hw with ⟨rfl, rfl⟩ | ⟨rfl, rfl⟩ <;> decide) _ _) (hT3.zero hw hs2 (by omega))
        refine rt_run 2 rfl ?_
        refine zl 10 0 τ2 (by omega) hO2 ?_
        have e : zP K[s] 0 (zW K s W) = zW K s W := by
          funext c' w'
          unfold zP
          rw [if_neg (by omega)]
        rw [e]
        exact hT2
      by_cases hc0 : K[s] = 0
      · have hcmp : lg_cmp (lN K[s]) 0 = 0 := by rw [hc0]; decide
        refine rt_if_eq rfl (fun _ => ?_) (fun hc => absurd hcmp hc)
        exact zero τ' K' T' x5 hO (by rw [hnext, if_pos hc0]) hT' hs'
      · have hcmp : ¬ lg_cmp (lN K[s]) 0 = 0 := by
          unfold lg_cmp
          intro hh
          split at hh
          · revert hh; decide
          · split at hh
            · rename_i _ he
              exact hc0 (lN_inj (a := K[s]) (b := 0) (by omega) (by decide) he)
            · revert hh; decide
        refine rt_if_eq rfl (fun hc => absurd hc hcmp) (fun _ => ?_)
        have hE' := hE.off hO (kTa_E hke)
        have hS' := hS.off hO (kTa_S hks)
        refine rt_run 4 rfl ?_
        refine rt_cV (ci := 9) mX9_advancesFrom kX9_advances_37 okX9_advancesFrom rfl rfl rfl rfl rfl ?_
        have hcg : ∀ w, zW K s W K[s] w = W K[s] w := by
          intro w
          unfold zW
          rw [if_neg hnt]
        refine advancesFrom_spec hw hke hks hE' hS' hL hT' hs' (fun τ2 K2 T2 ha2 hO2 hT2 hs2 => ?_) (fun hn τ2 hO2 => ?_)
        · refine rt_if_ne rfl (fun _ => ?_) (fun hc => absurd hc (by decide))
          refine zero τ2 K2 T2 x5 (hO.tr hO2) ?_ hT2 hs2
          rw [hnext, if_neg hc0, ← advN_congr hcg]
          exact ha2
        · refine rt_if_ne rfl (fun hc => absurd rfl hc) (fun _ => ?_)
          refine rt_run 1 rfl ?_
          refine rt_zret rfl rfl (Or.inl rfl) (h2 ?_ τ2 (hO.tr hO2))
          refine alN_none (s := s + 1) ?_ (by omega)
          rw [hnext, if_neg hc0, ← advN_congr hcg]
          exact hn
  refine rt_run 1 rfl ?_
  refine rt_g0 rfl ?_
  refine rt_run 1 rfl ?_
  rw [hsz]
  refine rt_run 3 rfl ?_
  refine loop K.length 0 τ K (fun _ _ => 0) none (by omega) (Off.rf _ _) rfl ?_
  have e : zW K 0 W = W := by
    funext c w
    unfold zW
    rw [List.take_zero, if_neg (by simp)]
  rw [e]
  exact hT
/-- the sum over the states that can be last, held below its limit -/
def totN (A : AE) (K : List Nat) (W : WF) (v : Nat) : Nat → Nat
  | 0 => 0
  | s + 1 => match K[s]? with
    | some c => if finB A c = true then min CM (totN A K W v s + W c v) else totN A K W v s
    | none => totN A K W v s
theorem totN_le (A : AE) (K : List Nat) (W : WF) (v n : Nat) : totN A K W v n ≤ CM := by
  induction n with
  | zero => exact Nat.zero_le _
  | succ n ih =>
    unfold totN
    split
    · split
      · exact Nat.min_le_left _ _
      · exact ih
    · exact ih
def fullI (m : Nat) : Int32 := if m = CM then -4 else nI m
theorem total_spec {ke wa wb v : Nat} {A : AE} {K : List Nat} {W T : WF} {τ : Ty} {Q : Option Value → Ty → Prop} (hw : isW wa wb) (hke : isE ke) (hE : ExIs τ ke A) (hT : TaIs τ wa wb A K W T) (hv : v < 10)
    (h : Q (some (.int (fullI (totN A K W v K.length)))) τ) : RT mX9_total none 0 [some (.ref 38), some (.ref ke), some (.int (nI v)), none, none] [] τ Q := by
  obtain ⟨w1, w2, w3, w4, w5⟩ := isW_f hw
  have hlen := hT.len
  have hsz : gF τ 39 2 = nI K.length := by rw [hT.2.1.1, List.length_map]
  have loop : ∀ d s, s + d = K.length → RT mX9_total none 5 [some (.ref 38), some (.ref ke), some (.int (nI v)), some (.int (nI (totN A K W v s))), some (.int (nI s))] [] τ Q := by
    intro d
    induction d with
    | zero =>
      intro s hs
      have : s = K.length := by omega
      subst this
      have hle : totN A K W v K.length ≤ 1000000001 := totN_le A K W v K.length
      refine rt_run 2 rfl ?_
      refine rt_g0 rfl ?_
      refine rt_run 1 rfl ?_
      refine rt_ge K.length K.length rfl (by omega) (by omega) (fun _ => ?_) (fun _ => by omega)
      refine rt_run 2 rfl ?_
      refine rt_ne (totN A K W v K.length) CM rfl (by omega) (by decide) (fun hne => ?_) (fun heq => ?_)
      · refine rt_run 1 rfl ?_
        unfold fullI at h
        rw [if_neg hne] at h
        exact rt_iret rfl rfl h
      · refine rt_run 2 rfl ?_
        unfold fullI at h
        rw [if_pos heq] at h
        exact rt_iret rfl rfl h
    | succ d ih =>
      intro s hs
      have hslt : s < K.length := by omega
      have hq : K[s]? = some K[s] := List.getElem?_eq_getElem hslt
      have hkey := hT.2.1.2.2.2.2.2.1 s (lN K[s]) (by rw [List.getElem?_map, hq]; rfl)
      have hcl := hT.2.2.1 _ (List.mem_of_getElem? hq)
      have hle : totN A K W v s ≤ 1000000001 := totN_le A K W v s
      have hWb : W K[s] v ≤ 1000000001 := hT.2.2.2.2.2.2.1.1 K[s] v
      refine rt_run 2 rfl ?_
      refine rt_g0 rfl ?_
      refine rt_run 1 rfl ?_
      refine rt_ge s K.length rfl (by omega) (by omega) (fun _ => by omega) (fun _ => ?_)
      refine rt_run 2 rfl ?_
      refine rt_g0 rfl ?_
      refine rt_run 2 rfl ?_
      refine rt_ldL s rfl (n := 400) rfl (by omega) ?_
      rw [hkey]
      refine rt_run 1 rfl ?_
      rw [lN_i]
      refine rt_cV (ci := 2) mX2_finishes kX9_total_29 okX2_finishes (isE_s hke) rfl rfl rfl rfl ?_
      refine finishes_specN hke hE hcl ?_
      have hn := ih (s + 1) (by omega)
      rw [nI_succ] at hn
      cases hf : finB A K[s] with
      | false =>
        refine rt_if_eq rfl (fun _ => ?_) (fun hc => absurd rfl hc)
        refine rt_run 2 rfl ?_
        have e : totN A K W v (s + 1) = totN A K W v s := by simp only [totN, hq, hf]; simp
        rw [e] at hn
        exact hn
      | true =>
        refine rt_if_eq rfl (fun hc => absurd hc (by decide)) (fun _ => ?_)
        refine rt_run 3 rfl ?_
        refine rt_getW1 rfl hT.1 ?_
        refine rt_run 5 rfl ?_
        refine rt_ld (s * 10 + v) rfl w1 (by omega) ?_ (by simp only [← nI_add, ← pk_mul]; rfl)
        rw [hT.2.2.2.2.1 s _ hq v hv]
        refine rt_run 1 rfl ?_
        refine rt_min rfl (by decide +kernel) (by decide) (Nat.le_of_ble_eq_true rfl) ?_
        rw [nI_add, minI (by omega)]
        refine rt_run 3 rfl ?_
        have e : totN A K W v (s + 1) = min CM (totN A K W v s + W K[s] v) := by simp only [totN, hq, hf]; simp
        rw [e] at hn
        exact hn
  refine rt_run 4 rfl ?_
  exact loop K.length 0 (by omega)
/-- n steps of all routes -/
def rouN (A : AE) (L : SL) (u : Nat) : Nat → Option (List Nat × WF)
  | 0 => some ([1], fun c w => if c = 1 ∧ w = u then 1 else 0)
  | k + 1 => (rouN A L u k).bind (fun KW => alN A L KW.1 KW.2 KW.1.length)
def rouI (A : AE) (L : SL) (u v n : Nat) : Int32 := match rouN A L u n with
  | none => -4
  | some KW => fullI (totN A KW.1 KW.2 v KW.1.length)
theorem rouN_none {A : AE} {L : SL} {u s t : Nat} (h : rouN A L u s = none) (hst : s ≤ t) : rouN A L u t = none := by
  induction t with
  | zero => have : s = 0 := by omega
            subst this; exact h
  | succ t ih =>
    by_cases hs : s = t + 1
    · subst hs; exact h
    · unfold rouN
      rw [ih (by omega)]; rfl
theorem isW_sym {wa wb : Nat} (h : isW wa wb) : isW wb wa := by
  rcases h with ⟨rfl, rfl⟩ | ⟨rfl, rfl⟩
  · exact Or.inr ⟨rfl, rfl⟩
  · exact Or.inl ⟨rfl, rfl⟩
theorem routesOf_spec {ke ks wa wb u v n : Nat} {A : AE} {L : SL} {τ : Ty} {Q : Option Value → Ty → Prop} (hw : isW wa wb) (hgW : gW τ = (wa, wb)) (hke : isE ke) (hks : isS ks) (hE : ExIs τ ke A) (hS : StIs τ ks L) (hL : StOk L) (hu : u < 10) (hv : v < 10) (hn : n < 1000)
    (h : ∀ τ' wa' wb', OffW kTa τ τ' → isW wa' wb' → gW τ' = (wa', wb') → Q (some (.int (rouI A L u v n))) τ') :
    RT mX9_routesOf none 0 [some (.ref 38), some (.ref ke), some (.ref ks), some (.int (nI u)), some (.int (nI v)), some (.int (nI n)), none, none] [] τ Q := by
  have loop : ∀ d k τ' wa' wb' K W, k + d = n → OffW kTa τ τ' → isW wa' wb' → rouN A L u k = some (K, W) → TaIs τ' wa' wb' A K W (fun _ _ => 0) → RT mX9_routesOf none 42 [some (.ref 38), some (.ref ke), some (.ref ks), some (.int (nI u)), some (.int (nI v)), some (.int (nI n)), some (.int (nI 0)), some (.int (nI k))] [] τ' Q := by
    intro d
    induction d with
    | zero =>
      intro k τ' wa' wb' K W hk hO hw' hr hT
      have : k = n := by omega
      subst this
      refine rt_run 2 rfl ?_
      refine rt_ge k k rfl (by omega) (by omega) (fun _ => ?_) (fun _ => by omega)
      refine rt_run 3 rfl ?_
      refine rt_cV (ci := 9) mX9_total kX9_routesOf_71 okX9_total rfl rfl rfl rfl rfl ?_
      refine total_spec hw' hke (hE.offW hO (kTa_E hke)) hT hv ?_
      refine rt_iret rfl rfl ?_
      have := h τ' wa' wb' hO hw' hT.1
      unfold rouI at this
      rw [hr] at this
      exact this
    | succ d ih =>
      intro k τ' wa' wb' K W hk hO hw' hr hT
      have hE' := hE.offW hO (kTa_E hke)
      have hS' := hS.offW hO (kTa_S hks)
      refine rt_run 2 rfl ?_
      refine rt_ge k n rfl (by omega) (by omega) (fun _ => by omega) (fun _ => ?_)
      refine rt_run 3 rfl ?_
      have hs1 : rouN A L u (k + 1) = alN A L K W K.length := by
        show (rouN A L u k).bind _ = _
        rw [hr]; rfl
      refine rt_cV (ci := 9) mX9_advances kX9_routesOf_52 okX9_advances rfl rfl rfl rfl rfl ?_
      refine advances_spec hw' hke hks hE' hS' hL hT (fun τ2 K2 T2 ha hO2 hT2 => ?_) (fun hno τ2 hO2 => ?_)
      · refine rt_if_ne rfl (fun _ => ?_) (fun hc => absurd hc (by decide))
        refine rt_run 2 rfl ?_
        rw [← nI_succ]
        exact ih (k + 1) τ2 wb' wa' K2 T2 (by omega) (hO.tr hO2) (isW_sym hw') (by rw [hs1]; exact ha) hT2
      · refine rt_if_ne rfl (fun hc => absurd rfl hc) (fun _ => ?_)
        refine rt_run 1 rfl ?_
        have := h τ2 wa' wb' (hO.tr hO2.w) hw' (hO2.2.trans hT.1)
        unfold rouI at this
        rw [rouN_none (s := k + 1) (by rw [hs1]; exact hno) (by omega)] at this
        exact rt_iret rfl rfl this
  refine rt_run 1 rfl ?_
  refine rt_g0 rfl ?_
  refine rt_run 1 rfl ?_
  refine rt_cV (ci := 8) mX8_reset kX9_routesOf_7 okX8_reset rfl rfl rfl rfl rfl ?_
  refine reset_spec (l := 400) (Or.inl rfl) (by decide) (fun τ1 hO1 hT1 => ?_)
  refine rt_run 2 rfl ?_
  refine rt_cV (ci := 9) mX9_stateOf kX9_routesOf_12 okX9_stateOf rfl rfl rfl rfl rfl ?_
  have hTa0 : TaIs τ1 wa wb A [] (fun _ _ => 0) (fun _ _ => 0) := ⟨hO1.2.trans hgW, hT1, fun c hc => by simp at hc, fun s c hc => by simp at hc, fun s c hc => by simp at hc, fun s c hc => by simp at hc, ⟨fun _ _ => Nat.zero_le _, fun _ _ _ => rfl⟩, ⟨fun _ _ => Nat.zero_le _, fun _ _ _ => rfl⟩⟩
  refine stateOf_spec (c := 1) hw hTa0 (by decide) (fun t ht => by simp at ht) (fun _ _ τ2 hO2 hT2 _ => ?_) (fun _ hfull => by simp at hfull)
  refine rt_run 3 rfl ?_
  refine rt_ic_ne rfl (fun _ => ?_) (fun hc => absurd hc (by decide))
  refine rt_run 1 rfl ?_
  refine rt_getW1 rfl hT2.1 ?_
  obtain ⟨w1, w2, w3, w4, w5⟩ := isW_f hw
  refine rt_run 6 rfl ?_
  refine rt_st u rfl w1 (by omega) ?_ (by
    have : nI ([] : List Nat).length * 10 + nI u = nI (0 * 10 + u) := by simp only [← nI_add, ← pk_mul]; rfl
    rw [this]; congr 1; omega)
  refine rt_run 2 rfl ?_
  refine loop n 0 _ wa wb [1] _ (by omega) (((hO1.up (by simp)).tr hO2).sI (by rcases hw with ⟨rfl, rfl⟩ | ⟨rfl, rfl⟩ <;> decide) _ _).w hw rfl ?_
  obtain ⟨t1, t2, t3, t4, t5, t6, t7, t8⟩ := hT2
  have hoff : Off [wa] τ2 (sI τ2 wa u 1) := (Off.rf _ _).sI (by simp) _ _
  refine ⟨t1, t2.off hoff (by rcases hw with ⟨rfl, rfl⟩ | ⟨rfl, rfl⟩ <;> decide), t3, fun s c hc sg hsg => ?_, fun s c hc w hw' => ?_, fun s c hc w hw' => ?_, ⟨fun c w => ?_, fun c w hc => ?_⟩, t8⟩
  · rw [gI_sI, if_neg (by rcases hw with ⟨rfl, rfl⟩ | ⟨rfl, rfl⟩ <;> decide)]
    exact t4 s c hc sg hsg
  · have hold := t5 s c hc w hw'
    rcases getApp (L := []) hc with ⟨hs, -⟩ | ⟨rfl, rfl⟩
    · simp at hs
    · rw [gI_sI, if_pos rfl]
      have e0 : ([] : List Nat).length * 10 + w = w := by simp
      rw [e0] at hold ⊢
      show upd (gI τ2 wa) u 1 w = nI (if (1 : Nat) = 1 ∧ w = u then 1 else 0)
      by_cases hwu : w = u
      · subst hwu; rw [pk_us, if_pos ⟨rfl, rfl⟩]; rfl
      · rw [pk_un hwu, if_neg (fun hh => hwu hh.2)]; exact hold
  · rw [gI_sI, if_neg (fun e => w3 e.symm)]; exact t6 s c hc w hw'
  · show (if c = 1 ∧ w = u then 1 else 0) ≤ 1000000001
    split <;> decide
  · show (if c = 1 ∧ w = u then 1 else 0) = 0
    rw [if_neg]
    rintro ⟨rfl, -⟩
    simp at hc
end
section
/-! Reader: its state, and what each of its methods makes of it -/
/-- by depth: the row's firsts and lasts, the choice's firsts and lasts; the part's; the stage; the depth; the draft's rows, signs, number of places -/
abbrev PSt : Type := (Nat → Int32) × (Nat → Int32) × (Nat → Int32) × (Nat → Int32) × Int32 × Int32 × Nat × Nat × (Nat → Int32) × (Nat → Int32) × Nat
def RdIs (τ : Ty) : PSt → Prop
  | (rf, rl, cf, cl, pf, pl, sg, d, fol, be, n) => gF τ 22 5 = nI d ∧ d ≤ 80 ∧ (sg = 2 → gF τ 22 6 = pf) ∧ (sg = 2 → gF τ 22 7 = pl) ∧ gF τ 22 8 = nI sg ∧ sg ≤ 2 ∧ (∀ j, j ≤ d → gI τ 26 j = rf j ∧ gI τ 27 j = rl j ∧ gI τ 28 j = cf j ∧ gI τ 29 j = cl j) ∧ gF τ 23 3 = nI n ∧ n ≤ 24 ∧ (∀ p, p < 25 → gI τ 24 p = fol p) ∧ ∀ s, s < 8 → gI τ 25 s = be s
abbrev kR : List Nat := [22, 23, 24, 25, 26, 27, 28, 29]
def lnkF (fol : Nat → Int32) (n : Nat) (these beh : Int32) : Nat → Int32 := fun p => if 1 ≤ p ∧ p ≤ n ∧ bt these p = true then fol p ||| (beh &&& -2) else fol p
def pRow : PSt → PSt
  | (rf, rl, cf, cl, pf, pl, sg, d, fol, be, n) => (upd rf d 1, upd rl d 1, cf, cl, pf, pl, sg, d, fol, be, n)
def pChoice : PSt → PSt
  | (rf, rl, cf, cl, pf, pl, sg, d, fol, be, n) => (upd rf d 1, upd rl d 1, upd cf d 0, upd cl d 0, pf, pl, sg, d, fol, be, n)
def pClose : PSt → PSt
  | (rf, rl, cf, cl, pf, pl, sg, d, fol, be, n) => if sg = 2 then (upd rf d (if rf d &&& 1 = 0 then rf d else (rf d &&& -2) ||| pf), upd rl d (if pl &&& 1 = 0 then pl else rl d ||| (pl &&& -2)), cf, cl, pf, pl, sg, d, lnkF fol n (rl d) pf, be, n) else (rf, rl, cf, cl, pf, pl, sg, d, fol, be, n)
def pCloseR (S : PSt) : PSt := match pClose S with
  | (rf, rl, cf, cl, pf, pl, sg, d, fol, be, n) => (rf, rl, upd cf d (cf d ||| rf d), upd cl d (cl d ||| rl d), pf, pl, sg, d, fol, be, n)
def pOpenPart (f l : Int32) : PSt → PSt
  | (rf, rl, cf, cl, _, _, _, d, fol, be, n) => (rf, rl, cf, cl, f, l, 2, d, fol, be, n)
def pDepth (d' : Nat) : PSt → PSt
  | (rf, rl, cf, cl, pf, pl, sg, _, fol, be, n) => (rf, rl, cf, cl, pf, pl, sg, d', fol, be, n)
def pStage (sg' : Nat) : PSt → PSt
  | (rf, rl, cf, cl, pf, pl, _, d, fol, be, n) => (rf, rl, cf, cl, pf, pl, sg', d, fol, be, n)
abbrev qStage (S : PSt) : Nat := S.2.2.2.2.2.2.1
abbrev qDepth (S : PSt) : Nat := S.2.2.2.2.2.2.2.1
abbrev qN (S : PSt) : Nat := S.2.2.2.2.2.2.2.2.2.2
theorem beginRow_spec {S : PSt} {τ : Ty} {Q : Option Value → Ty → Prop} (hR : RdIs τ S) (h : ∀ τ', Off kR τ τ' → RdIs τ' (pRow S) → Q none τ') : RT mX4_beginRow none 0 [some (.ref 22)] [] τ Q := by
  obtain ⟨rf, rl, cf, cl, pf, pl, sg, d, fol, be, n⟩ := S
  obtain ⟨r1, r2, r3, r4, r5, r6, r7, r8, r9, r10, r11⟩ := hR
  refine rt_run 5 rfl ?_
  refine rt_st d rfl (n := 81) rfl (by omega) ?_ r1
  refine rt_run 5 rfl ?_
  refine rt_st d rfl (n := 81) rfl (by omega) ?_ r1
  refine rt_vret rfl rfl (h _ (((Off.rf _ _).sI (by simp) _ _).sI (by simp) _ _) ⟨r1, r2, r3, r4, r5, r6, fun j hj => ?_, r8, r9, r10, r11⟩)
  obtain ⟨q1, q2, q3, q4⟩ := r7 j hj
  refine ⟨?_, ?_, q3, q4⟩
  · show upd (gI τ 26) d 1 j = upd rf d 1 j
    unfold upd; split; rfl; exact q1
  · show upd (gI τ 27) d 1 j = upd rl d 1 j
    unfold upd; split; rfl; exact q2
theorem beginChoice_spec {S : PSt} {τ : Ty} {Q : Option Value → Ty → Prop} (hR : RdIs τ S) (h : ∀ τ', Off kR τ τ' → RdIs τ' (pChoice S) → Q none τ') : RT mX4_beginChoice none 0 [some (.ref 22)] [] τ Q := by
  obtain ⟨rf, rl, cf, cl, pf, pl, sg, d, fol, be, n⟩ := S
  obtain ⟨r1, r2, r3, r4, r5, r6, r7, r8, r9, r10, r11⟩ := hR
  refine rt_run 5 rfl ?_
  refine rt_st d rfl (n := 81) rfl (by omega) ?_ r1
  refine rt_run 5 rfl ?_
  refine rt_st d rfl (n := 81) rfl (by omega) ?_ r1
  refine rt_run 1 rfl ?_
  refine rt_cV (ci := 4) mX4_beginRow kX4_beginChoice_21 okX4_beginRow rfl rfl rfl rfl rfl ?_
  refine beginRow_spec (S := (rf, rl, upd cf d 0, upd cl d 0, pf, pl, sg, d, fol, be, n)) ⟨r1, r2, r3, r4, r5, r6, fun j hj => ?_, r8, r9, r10, r11⟩ (fun τ' hO hR' => ?_)
  · obtain ⟨q1, q2, q3, q4⟩ := r7 j hj
    refine ⟨q1, q2, ?_, ?_⟩
    · show upd (gI τ 28) d 0 j = upd cf d 0 j
      unfold upd; split; rfl; exact q3
    · show upd (gI τ 29) d 0 j = upd cl d 0 j
      unfold upd; split; rfl; exact q4
  · exact rt_vret rfl rfl (h τ' ((((Off.rf _ _).sI (by simp) _ _).sI (by simp) _ _).tr hO) hR')
theorem closePart_spec {S : PSt} {τ : Ty} {Q : Option Value → Ty → Prop} (hR : RdIs τ S) (h : ∀ τ', Off kR τ τ' → RdIs τ' (pClose S) → Q none τ') : RT mX4_closePart none 0 [some (.ref 22)] [] τ Q := by
  obtain ⟨rf, rl, cf, cl, pf, pl, sg, d, fol, be, n⟩ := S
  obtain ⟨r1, r2, r3, r4, r5, r6, r7, r8, r9, r10, r11⟩ := hR
  refine rt_run 3 rfl ?_
  refine rt_eq sg 2 rfl (by omega) (by omega) (fun e => ?_) (fun e => ?_) r5
  · obtain ⟨q1, q2, q3, q4⟩ := r7 d (Nat.le_refl _)
    refine rt_run 6 rfl ?_
    refine rt_ld d rfl (n := 81) rfl (by omega) ?_ r1
    refine rt_run 2 rfl ?_
    rw [q2, r3 e]
    refine rt_cV (ci := 2) mX2_link kX4_closePart_26 okX2_link rfl rfl rfl rfl rfl ?_
    refine link_spec (n := n) (Or.inl rfl) r8 r9 (fun f hf => ?_)
    have hP : pClose (rf, rl, cf, cl, pf, pl, sg, d, fol, be, n) = (upd rf d (if rf d &&& 1 = 0 then rf d else (rf d &&& -2) ||| pf), upd rl d (if pl &&& 1 = 0 then pl else rl d ||| (pl &&& -2)), cf, cl, pf, pl, sg, d, lnkF fol n (rl d) pf, be, n) := by
      show (if sg = 2 then _ else _) = _
      rw [if_pos e]
    rw [hP] at h
    have hfol : ∀ p, p < 25 → f p = lnkF fol n (rl d) pf p := by
      intro p hp
      rw [hf p]
      unfold lnkF
      rw [show gI τ (23 + 1) p = fol p from r10 p hp]
    -- the lasts, behind the firsts
    have lasts : ∀ τ1 (rf' : Nat → Int32), Off kR τ τ1 → RdIs τ1 (rf', rl, cf, cl, pf, pl, sg, d, lnkF fol n (rl d) pf, be, n) → rf' = upd rf d (if rf d &&& 1 = 0 then rf d else (rf d &&& -2) ||| pf) → RT mX4_closePart none 69 [some (.ref 22)] [] τ1 Q := by
      intro τ1 rf' hO1 hR1 hrf
      subst hrf
      obtain ⟨s1, s2, s3, s4, s5, s6, s7, s8, s9, s10, s11⟩ := hR1
      obtain ⟨q1, q2, q3, q4⟩ := s7 d (Nat.le_refl _)
      refine rt_run 2 rfl ?_
      rw [s4 e]
      refine rt_run 2 rfl ?_
      have done : ∀ x : Int32, x = (if pl &&& 1 = 0 then pl else rl d ||| (pl &&& -2)) → RT mX4_closePart none 113 [some (.ref 22)] [] (sI τ1 27 d x) Q := by
        intro x hx
        refine rt_vret rfl rfl (h _ (hO1.sI (by simp) _ _) ⟨s1, s2, s3, s4, s5, s6, fun j hj => ?_, s8, s9, s10, s11⟩)
        obtain ⟨q1, q2, q3, q4⟩ := s7 j hj
        refine ⟨q1, ?_, q3, q4⟩
        show upd (gI τ1 27) d x j = upd rl d _ j
        rw [← hx]
        unfold upd; split; rfl; exact q2
      refine rt_if_eq rfl (fun hc => ?_) (fun hc => ?_)
      · refine rt_run 6 rfl ?_
        rw [s4 e]
        refine rt_st d rfl (n := 81) rfl (by omega) ?_ s1
        exact done _ (by rw [if_pos hc])
      · refine rt_run 5 rfl ?_
        refine rt_ld d rfl (n := 81) rfl (by omega) ?_ s1
        refine rt_run 5 rfl ?_
        rw [s4 e, q2]
        refine rt_st d rfl (n := 81) rfl (by omega) ?_ s1
        refine rt_run 1 rfl ?_
        exact done _ (by rw [if_neg hc])
    refine rt_run 4 rfl ?_
    refine rt_ld d rfl (n := 81) rfl (by omega) ?_ r1
    rw [show gI (sA τ (23 + 1) f) 26 d = rf d from q1]
    refine rt_run 2 rfl ?_
    have hO0 : Off kR τ (sA τ (23 + 1) f) := (Off.rf _ _).sA (by simp) _
    refine rt_if_eq rfl (fun hc => ?_) (fun hc => ?_)
    · refine lasts _ rf hO0 ⟨r1, r2, r3, r4, r5, r6, r7, r8, r9, hfol, r11⟩ ?_
      funext j
      rw [if_pos hc]
      unfold upd
      split
      · rename_i e; rw [e]
      · rfl
    · refine rt_run 8 rfl ?_
      refine rt_ld d rfl (n := 81) rfl (by omega) ?_ r1
      rw [show gI (sA τ (23 + 1) f) 26 d = rf d from q1]
      refine rt_run 5 rfl ?_
      rw [show gF (sA τ (23 + 1) f) 22 6 = pf from r3 e]
      refine rt_st d rfl (n := 81) rfl (by omega) ?_ r1
      refine lasts _ (upd rf d ((rf d &&& -2) ||| pf)) (hO0.sI (by simp) _ _) ⟨r1, r2, r3, r4, r5, r6, fun j hj => ?_, r8, r9, hfol, r11⟩ (by rw [if_neg hc])
      obtain ⟨q1, q2, q3, q4⟩ := r7 j hj
      refine ⟨?_, q2, q3, q4⟩
      show upd (gI τ 26) d _ j = upd rf d _ j
      unfold upd; split; rfl; exact q1
  · have hP : pClose (rf, rl, cf, cl, pf, pl, sg, d, fol, be, n) = (rf, rl, cf, cl, pf, pl, sg, d, fol, be, n) := by
      show (if sg = 2 then _ else _) = _
      rw [if_neg e]
    rw [hP] at h
    exact rt_vret rfl rfl (h τ (Off.rf _ _) ⟨r1, r2, r3, r4, r5, r6, r7, r8, r9, r10, r11⟩)
theorem closeRow_spec {S : PSt} {τ : Ty} {Q : Option Value → Ty → Prop} (hR : RdIs τ S) (h : ∀ τ', Off kR τ τ' → RdIs τ' (pCloseR S) → Q none τ') : RT mX4_closeRow none 0 [some (.ref 22)] [] τ Q := by
  refine rt_run 1 rfl ?_
  refine rt_cV (ci := 4) mX4_closePart kX4_closeRow_1 okX4_closePart rfl rfl rfl rfl rfl ?_
  refine closePart_spec hR (fun τ1 hO1 hR1 => ?_)
  unfold pCloseR at h
  generalize pClose S = S1 at hR1 h
  obtain ⟨rf, rl, cf, cl, pf, pl, sg, d, fol, be, n⟩ := S1
  obtain ⟨r1, r2, r3, r4, r5, r6, r7, r8, r9, r10, r11⟩ := hR1
  obtain ⟨q1, q2, q3, q4⟩ := r7 d (Nat.le_refl _)
  refine rt_run 5 rfl ?_
  refine rt_ld d rfl (n := 81) rfl (by omega) ?_ r1
  refine rt_run 4 rfl ?_
  refine rt_ld d rfl (n := 81) rfl (by omega) ?_ r1
  refine rt_run 1 rfl ?_
  rw [q1, q3]
  refine rt_st d rfl (n := 81) rfl (by omega) ?_ r1
  refine rt_run 5 rfl ?_
  refine rt_ld d rfl (n := 81) rfl (by omega) ?_ r1
  refine rt_run 4 rfl ?_
  refine rt_ld d rfl (n := 81) rfl (by omega) ?_ r1
  refine rt_run 1 rfl ?_
  rw [show gI (sI τ1 28 d (cf d ||| rf d)) 29 d = cl d from q4, show gI (sI τ1 28 d (cf d ||| rf d)) 27 d = rl d from q2]
  refine rt_st d rfl (n := 81) rfl (by omega) ?_ r1
  refine rt_vret rfl rfl (h _ ((hO1.sI (by simp) _ _).sI (by simp) _ _) ⟨r1, r2, r3, r4, r5, r6, fun j hj => ?_, r8, r9, r10, r11⟩)
  obtain ⟨q1, q2, q3, q4⟩ := r7 j hj
  refine ⟨q1, q2, ?_, ?_⟩
  · show upd (gI τ1 28) d _ j = upd cf d _ j
    unfold upd; split; rfl; exact q3
  · show upd (gI τ1 29) d _ j = upd cl d _ j
    unfold upd; split; rfl; exact q4
theorem openPart_spec {S : PSt} {f l : Int32} {τ : Ty} {Q : Option Value → Ty → Prop} (hR : RdIs τ S) (h : ∀ τ', Off kR τ τ' → RdIs τ' (pOpenPart f l S) → Q none τ') : RT mX4_openPart none 0 [some (.ref 22), some (.int f), some (.int l)] [] τ Q := by
  obtain ⟨rf, rl, cf, cl, pf, pl, sg, d, fol, be, n⟩ := S
  obtain ⟨r1, r2, r3, r4, r5, r6, r7, r8, r9, r10, r11⟩ := hR
  refine rt_run 9 rfl ?_
  exact rt_vret rfl rfl (h _ ((((Off.rf _ _).sF (by simp) _ _).sF (by simp) _ _).sF (by simp) _ _) ⟨r1, r2, fun _ => rfl, fun _ => rfl, rfl, by decide, r7, r8, r9, r10, r11⟩)
end
section
/-! Reader: what a byte makes of its state; takes, faultOf -/
def tkOpen (S : PSt) : Option PSt := if 80 ≤ qDepth S then none else some (pStage 1 (pChoice (pDepth (qDepth S + 1) (pClose S))))
def tkClose (S : PSt) : Option PSt := if qDepth S = 0 ∨ qStage S = 0 then none else match pCloseR S with
  | (rf, rl, cf, cl, _, _, _, d, fol, be, n) => some (rf, rl, cf, cl, cf d, cl d, 2, d - 1, fol, be, n)
def tkTurn (S : PSt) : Option PSt := if qStage S = 2 then some (pStage 0 (pRow (pCloseR S))) else none
def tkRep (b : Nat) (S : PSt) : Option PSt := if qStage S = 2 then (match S with
  | (rf, rl, cf, cl, pf, pl, sg, d, fol, be, n) => some (rf, rl, cf, cl, (if b = 43 then pf else pf ||| 1), (if b = 43 then pl else pl ||| 1), sg, d, (if b = 63 then fol else lnkF fol n pl pf), be, n)) else none
def tkPlace (s : Int32) (S : PSt) : Option PSt := if s = 0 ∨ 24 ≤ qN S then none else match pClose S with
  | (rf, rl, cf, cl, _, _, _, d, fol, be, n) => some (rf, rl, cf, cl, 1 <<< (nI (n + 1) &&& 31), 1 <<< (nI (n + 1) &&& 31), 2, d, fol, fun x => if bt s x = true then be x ||| (1 <<< (nI (n + 1) &&& 31)) else be x, n + 1)
def sgnI (b : Nat) : Int32 := if 97 ≤ b ∧ b ≤ 100 then 1 <<< (nI (b - 97) &&& 31) else if 65 ≤ b ∧ b ≤ 68 then 1 <<< (nI (b - 65 + 4) &&& 31) else if b = 46 then 15 else if b = 45 then 240 else 0
def tk (b : Nat) (S : PSt) : Option PSt := if b = 32 then some S else if b = 40 then tkOpen S else if b = 41 then tkClose S else if b = 124 then tkTurn S else if b = 42 ∨ b = 43 ∨ b = 63 then tkRep b S else tkPlace (sgnI b) S
theorem pClose_depth (S : PSt) : qDepth (pClose S) = qDepth S ∧ qN (pClose S) = qN S ∧ qStage (pClose S) = qStage S := by
  obtain ⟨rf, rl, cf, cl, pf, pl, sg, d, fol, be, n⟩ := S
  by_cases h : sg = 2
  · simp [pClose, h]
  · simp [pClose, h]
theorem pCloseR_depth (S : PSt) : qDepth (pCloseR S) = qDepth S ∧ qN (pCloseR S) = qN S ∧ qStage (pCloseR S) = qStage S := pClose_depth S
section RdBytes
variable {S : PSt} {τ : Ty} {Q : Option Value → Ty → Prop}
theorem opens_spec (hR : RdIs τ S) (h1 : ∀ τ' S', tkOpen S = some S' → Off kR τ τ' → RdIs τ' S' → Q (some (.int 1)) τ') (h0 : tkOpen S = none → Q (some (.int 0)) τ) : RT mX4_opens none 0 [some (.ref 22)] [] τ Q := by
  have hR0 := hR
  obtain ⟨rf, rl, cf, cl, pf, pl, sg, d, fol, be, n⟩ := S
  obtain ⟨r1, r2, -⟩ := hR
  refine rt_run 3 rfl ?_
  refine rt_lt d 80 rfl (by omega) (by omega) (fun hlt => ?_) (fun hge => ?_) r1
  · refine rt_run 1 rfl ?_
    refine rt_cV (ci := 4) mX4_closePart kX4_opens_12 okX4_closePart rfl rfl rfl rfl rfl ?_
    refine closePart_spec hR0 (fun τ1 hO1 hR1 => ?_)
    have hd := (pClose_depth (rf, rl, cf, cl, pf, pl, sg, d, fol, be, n)).1
    have hk1 : ∀ τ' S', some (pStage 1 (pChoice (pDepth (d + 1) (pClose (rf, rl, cf, cl, pf, pl, sg, d, fol, be, n))))) = some S' → Off kR τ τ' → RdIs τ' S' → Q (some (.int 1)) τ' := by
      intro τ' S' he
      refine h1 τ' S' ?_
      unfold tkOpen
      rw [if_neg (show ¬ 80 ≤ d by omega)]
      exact he
    generalize pClose (rf, rl, cf, cl, pf, pl, sg, d, fol, be, n) = S1 at hR1 hk1 hd
    obtain ⟨rf1, rl1, cf1, cl1, pf1, pl1, sg1, d1, fol1, be1, n1⟩ := S1
    have hd : d1 = d := hd
    subst hd
    obtain ⟨s1, s2, s3, s4, s5, s6, s7, s8, s9, s10, s11⟩ := hR1
    refine rt_run 6 rfl ?_
    rw [s1, ← nI_succ]
    refine rt_run 1 rfl ?_
    refine rt_cV (ci := 4) mX4_beginChoice kX4_opens_26 okX4_beginChoice rfl rfl rfl rfl rfl ?_
    -- the rows above the old depth hold what they held
    refine beginChoice_spec (S := (fun j => gI τ1 26 j, fun j => gI τ1 27 j, fun j => gI τ1 28 j, fun j => gI τ1 29 j, pf1, pl1, sg1, d1 + 1, fol1, be1, n1)) ⟨rfl, by omega, s3, s4, s5, s6, fun j _ => ⟨rfl, rfl, rfl, rfl⟩, s8, s9, s10, s11⟩ (fun τ2 hO2 hR2 => ?_)
    obtain ⟨u1, u2, u3, u4, u5, u6, u7, u8, u9, u10, u11⟩ := hR2
    refine rt_run 4 rfl ?_
    refine rt_zret rfl rfl (Or.inr rfl) (hk1 _ _ rfl (((hO1.sF (by simp) _ _).tr hO2).sF (by simp) _ _) ⟨u1, u2, (fun e => by cases e), (fun e => by cases e), rfl, by decide, fun j hj => ?_, u8, u9, u10, u11⟩)
    obtain ⟨q1, q2, q3, q4⟩ := u7 j hj
    have key : ∀ (g1 : Nat → Int32) (a : Nat) (x : Int32), (∀ i, i ≤ d1 → gI τ1 a i = g1 i) → upd (fun j => gI τ1 a j) (d1 + 1) x j = upd g1 (d1 + 1) x j := by
      intro g1 a x hg
      unfold upd
      split
      · rfl
      · exact hg j (by omega)
    refine ⟨q1.trans (key _ 26 _ (fun i hi => (s7 i hi).1)), q2.trans (key _ 27 _ (fun i hi => (s7 i hi).2.1)), q3.trans (key _ 28 _ (fun i hi => (s7 i hi).2.2.1)), q4.trans (key _ 29 _ (fun i hi => (s7 i hi).2.2.2))⟩
  · refine rt_run 1 rfl ?_
    refine rt_zret rfl rfl (Or.inl rfl) (h0 ?_)
    unfold tkOpen
    rw [if_pos (show 80 ≤ d from hge)]
theorem closes_spec (hR : RdIs τ S) (h1 : ∀ τ' S', tkClose S = some S' → Off kR τ τ' → RdIs τ' S' → Q (some (.int 1)) τ') (h0 : tkClose S = none → Q (some (.int 0)) τ) : RT mX4_closes none 0 [some (.ref 22), none] [] τ Q := by
  have hR0 := hR
  obtain ⟨rf, rl, cf, cl, pf, pl, sg, d, fol, be, n⟩ := S
  obtain ⟨r1, r2, r3, r4, r5, r6, -⟩ := hR
  have no : (d = 0 ∨ sg = 0) → RT mX4_closes none 14 [some (.ref 22), none] [] τ Q := by
    intro hh
    refine rt_run 1 rfl ?_
    refine rt_zret rfl rfl (Or.inl rfl) (h0 ?_)
    unfold tkClose
    rw [if_pos (show d = 0 ∨ sg = 0 from hh)]
  refine rt_run 2 rfl ?_
  rw [r1]
  refine rt_if_eq rfl (fun hz => no (Or.inl ?_)) (fun hz => ?_)
  · by_cases h : d = 0
    · exact h
    · exact absurd hz (nI_ne0 (by omega) (by omega))
  · have hd0 : d ≠ 0 := fun e => hz (by rw [e]; rfl)
    refine rt_run 2 rfl ?_
    rw [r5]
    refine rt_if_ne rfl (fun hs => ?_) (fun hs => no (Or.inr ?_))
    · have hs0 : sg ≠ 0 := fun e => hs (by rw [e]; rfl)
      refine rt_run 1 rfl ?_
      refine rt_cV (ci := 4) mX4_closeRow kX4_closes_17 okX4_closeRow rfl rfl rfl rfl rfl ?_
      refine closeRow_spec hR0 (fun τ1 hO1 hR1 => ?_)
      have hd := (pCloseR_depth (rf, rl, cf, cl, pf, pl, sg, d, fol, be, n)).1
      have hk1 : ∀ τ' S', (match pCloseR (rf, rl, cf, cl, pf, pl, sg, d, fol, be, n) with
          | (rf, rl, cf, cl, _, _, _, d, fol, be, n) => some (rf, rl, cf, cl, cf d, cl d, 2, d - 1, fol, be, n)) = some S' → Off kR τ τ' → RdIs τ' S' → Q (some (.int 1)) τ' := by
        intro τ' S' he
        refine h1 τ' S' ?_
        unfold tkClose
        rw [if_neg (show ¬ (d = 0 ∨ sg = 0) by omega)]
        exact he
      generalize pCloseR (rf, rl, cf, cl, pf, pl, sg, d, fol, be, n) = S1 at hR1 hk1 hd
      obtain ⟨rf1, rl1, cf1, cl1, pf1, pl1, sg1, d1, fol1, be1, n1⟩ := S1
      have hd : d1 = d := hd
      subst hd
      obtain ⟨s1, s2, s3, s4, s5, s6, s7, s8, s9, s10, s11⟩ := hR1
      obtain ⟨q1, q2, q3, q4⟩ := s7 d1 (Nat.le_refl _)
      refine rt_run 3 rfl ?_
      rw [s1]
      refine rt_run 6 rfl ?_
      rw [s1, show nI d1 - 1 = nI (d1 - 1) by rw [show d1 = (d1 - 1) + 1 by omega, nI_pred, Nat.add_sub_cancel]]
      refine rt_run 4 rfl ?_
      refine rt_ld d1 rfl (n := 81) rfl (by omega) ?_
      refine rt_run 3 rfl ?_
      refine rt_ld d1 rfl (n := 81) rfl (by omega) ?_
      rw [show gI (sF τ1 22 5 (nI (d1 - 1))) 28 d1 = cf1 d1 from q3, show gI (sF τ1 22 5 (nI (d1 - 1))) 29 d1 = cl1 d1 from q4]
      refine rt_cV (ci := 4) mX4_openPart kX4_closes_48 okX4_openPart rfl rfl rfl rfl rfl ?_
      refine openPart_spec (S := (rf1, rl1, cf1, cl1, pf1, pl1, sg1, d1 - 1, fol1, be1, n1)) ⟨rfl, by omega, s3, s4, s5, s6, fun j hj => s7 j (by omega), s8, s9, s10, s11⟩ (fun τ2 hO2 hR2 => ?_)
      refine rt_run 1 rfl ?_
      exact rt_zret rfl rfl (Or.inr rfl) (hk1 τ2 _ rfl ((hO1.sF (by simp) _ _).tr hO2) hR2)
    · by_cases h : sg = 0
      · exact h
      · exact absurd hs (nI_ne0 (by omega) (by omega))
theorem turns_spec (hR : RdIs τ S) (h1 : ∀ τ' S', tkTurn S = some S' → Off kR τ τ' → RdIs τ' S' → Q (some (.int 1)) τ') (h0 : tkTurn S = none → Q (some (.int 0)) τ) : RT mX4_turns none 0 [some (.ref 22)] [] τ Q := by
  have hR0 := hR
  obtain ⟨rf, rl, cf, cl, pf, pl, sg, d, fol, be, n⟩ := S
  obtain ⟨r1, r2, r3, r4, r5, r6, -⟩ := hR
  refine rt_run 3 rfl ?_
  refine rt_eq sg 2 rfl (by omega) (by omega) (fun e => ?_) (fun e => ?_) r5
  · refine rt_run 1 rfl ?_
    refine rt_cV (ci := 4) mX4_closeRow kX4_turns_11 okX4_closeRow rfl rfl rfl rfl rfl ?_
    refine closeRow_spec hR0 (fun τ1 hO1 hR1 => ?_)
    refine rt_run 1 rfl ?_
    refine rt_cV (ci := 4) mX4_beginRow kX4_turns_15 okX4_beginRow rfl rfl rfl rfl rfl ?_
    refine beginRow_spec hR1 (fun τ2 hO2 hR2 => ?_)
    have h1 := h1 (sF τ2 22 8 0) (pStage 0 (pRow (pCloseR (rf, rl, cf, cl, pf, pl, sg, d, fol, be, n)))) (by unfold tkTurn; rw [if_pos (show sg = 2 from e)]) ((hO1.tr hO2).sF (by simp) _ _)
    generalize pRow (pCloseR (rf, rl, cf, cl, pf, pl, sg, d, fol, be, n)) = S2 at hR2 h1
    obtain ⟨rf2, rl2, cf2, cl2, pf2, pl2, sg2, d2, fol2, be2, n2⟩ := S2
    obtain ⟨u1, u2, u3, u4, u5, u6, u7, u8, u9, u10, u11⟩ := hR2
    refine rt_run 4 rfl ?_
    exact rt_zret rfl rfl (Or.inr rfl) (h1 ⟨u1, u2, (fun e => by cases e), (fun e => by cases e), rfl, by decide, u7, u8, u9, u10, u11⟩)
  · refine rt_run 1 rfl ?_
    refine rt_zret rfl rfl (Or.inl rfl) (h0 ?_)
    unfold tkTurn
    rw [if_neg (show ¬ sg = 2 from e)]
theorem repeats_spec {b : Nat} (hb : b < 128) (hR : RdIs τ S) (h1 : ∀ τ' S', tkRep b S = some S' → Off kR τ τ' → RdIs τ' S' → Q (some (.int 1)) τ') (h0 : tkRep b S = none → Q (some (.int 0)) τ) : RT mX4_repeats none 0 [some (.ref 22), some (.int (nI b))] [] τ Q := by
  obtain ⟨rf, rl, cf, cl, pf, pl, sg, d, fol, be, n⟩ := S
  obtain ⟨r1, r2, r3, r4, r5, r6, r7, r8, r9, r10, r11⟩ := hR
  refine rt_run 3 rfl ?_
  refine rt_eq sg 2 rfl (by omega) (by omega) (fun e => ?_) (fun e => ?_) r5
  · have fin : ∀ τ1, Off kR τ τ1 → RdIs τ1 (rf, rl, cf, cl, pf, pl, sg, d, (if b = 63 then fol else lnkF fol n pl pf), be, n) → RT mX4_repeats none 31 [some (.ref 22), some (.int (nI b))] [] τ1 Q := by
      intro τ1 hO1 hR1
      have h1 : ∀ τ' , Off kR τ τ' → RdIs τ' (rf, rl, cf, cl, (if b = 43 then pf else pf ||| 1), (if b = 43 then pl else pl ||| 1), sg, d, (if b = 63 then fol else lnkF fol n pl pf), be, n) → Q (some (.int 1)) τ' := by
        intro τ'
        refine h1 τ' _ ?_
        unfold tkRep
        rw [if_pos (show sg = 2 from e)]
      obtain ⟨s1, s2, s3, s4, s5, s6, s7, s8, s9, s10, s11⟩ := hR1
      refine rt_run 2 rfl ?_
      refine rt_eq b 43 rfl (by omega) (by omega) (fun e43 => ?_) (fun e43 => ?_)
      · refine rt_run 1 rfl ?_
        rw [if_pos e43, if_pos e43] at h1
        exact rt_zret rfl rfl (Or.inr rfl) (h1 τ1 hO1 ⟨s1, s2, s3, s4, s5, s6, s7, s8, s9, s10, s11⟩)
      · refine rt_run 6 rfl ?_
        refine rt_run 6 rfl ?_
        refine rt_run 1 rfl ?_
        rw [if_neg e43, if_neg e43] at h1
        refine rt_zret rfl rfl (Or.inr rfl) (h1 _ ((hO1.sF (by simp) _ _).sF (by simp) _ _) ⟨s1, s2, fun e => ?_, fun e => ?_, s5, s6, s7, s8, s9, s10, s11⟩)
        · show gF τ1 22 6 ||| 1 = _
          rw [s3 e]
        · show gF τ1 22 7 ||| 1 = _
          rw [s4 e]
    refine rt_run 2 rfl ?_
    refine rt_eq b 63 rfl (by omega) (by omega) (fun e63 => ?_) (fun e63 => ?_)
    · refine fin τ (Off.rf _ _) ?_
      rw [if_pos e63]
      exact ⟨r1, r2, r3, r4, r5, r6, r7, r8, r9, r10, r11⟩
    · refine rt_run 6 rfl ?_
      rw [r3 e, r4 e]
      refine rt_cV (ci := 2) mX2_link kX4_repeats_28 okX2_link rfl rfl rfl rfl rfl ?_
      refine link_spec (n := n) (Or.inl rfl) r8 r9 (fun f hf => ?_)
      refine fin _ ((Off.rf _ _).sA (by simp) _) ?_
      rw [if_neg e63]
      refine ⟨r1, r2, r3, r4, r5, r6, r7, r8, r9, fun p hp => ?_, r11⟩
      show f p = lnkF fol n pl pf p
      rw [hf p]
      unfold lnkF
      rw [show gI τ (23 + 1) p = fol p from r10 p hp]
  · refine rt_run 1 rfl ?_
    refine rt_zret rfl rfl (Or.inl rfl) (h0 ?_)
    unfold tkRep
    rw [if_neg (show ¬ sg = 2 from e)]
theorem signsOf_spec {b : Nat} (hb : b < 128) (h : Q (some (.int (sgnI b))) τ) : RT mX4_signsOf none 0 [some (.int (nI b))] [] τ Q := by
  unfold sgnI at h
  have cap : ¬ (97 ≤ b ∧ b ≤ 100) → RT mX4_signsOf none 19 [some (.int (nI b))] [] τ Q := by
    intro h97
    rw [if_neg h97] at h
    have rest : ¬ (65 ≤ b ∧ b ≤ 68) → RT mX4_signsOf none 40 [some (.int (nI b))] [] τ Q := by
      intro h65
      rw [if_neg h65] at h
      refine rt_run 2 rfl ?_
      refine rt_ne b 46 rfl (by omega) (by omega) (fun e => ?_) (fun e => ?_)
      · rw [if_neg e] at h
        refine rt_run 2 rfl ?_
        refine rt_ne b 45 rfl (by omega) (by omega) (fun e2 => ?_) (fun e2 => ?_)
        · rw [if_neg e2] at h
          refine rt_run 1 rfl ?_
          exact rt_iret rfl rfl h
        · rw [if_pos e2] at h
          refine rt_run 2 rfl ?_
          exact rt_iret rfl rfl h
      · rw [if_pos e] at h
        refine rt_run 1 rfl ?_
        exact rt_iret rfl rfl h
    refine rt_run 2 rfl ?_
    refine rt_lt b 65 rfl (by omega) (by omega) (fun e => rest (by omega)) (fun e => ?_)
    refine rt_run 2 rfl ?_
    refine rt_gt b 68 rfl (by omega) (by omega) (fun e => rest (by omega)) (fun e2 => ?_)
    rw [if_pos ⟨e, e2⟩] at h
    refine rt_run 7 rfl ?_
    rw [show nI b - 65 + 4 = nI (b - 65 + 4) by
      rw [show (65 : Int32) = nI 65 from rfl, pk_sub e, show (4 : Int32) = nI 4 from rfl, nI_add]]
    exact rt_iret rfl rfl h
  refine rt_run 2 rfl ?_
  refine rt_lt b 97 rfl (by omega) (by omega) (fun e => cap (by omega)) (fun e => ?_)
  refine rt_run 2 rfl ?_
  refine rt_gt b 100 rfl (by omega) (by omega) (fun e => cap (by omega)) (fun e2 => ?_)
  rw [if_pos ⟨e, e2⟩] at h
  refine rt_run 5 rfl ?_
  rw [show nI b - 97 = nI (b - 97) by rw [show (97 : Int32) = nI 97 from rfl, pk_sub e]]
  exact rt_iret rfl rfl h
theorem takesPlace_spec {s : Int32} (hR : RdIs τ S) (h1 : ∀ τ' S', tkPlace s S = some S' → Off kR τ τ' → RdIs τ' S' → Q (some (.int 1)) τ') (h0 : tkPlace s S = none → Q (some (.int 0)) τ) : RT mX4_takesPlace none 0 [some (.ref 22), some (.int s), none] [] τ Q := by
  have hR0 := hR
  obtain ⟨rf, rl, cf, cl, pf, pl, sg, d, fol, be, n⟩ := S
  obtain ⟨r1, r2, r3, r4, r5, r6, r7, r8, r9, -⟩ := hR
  have no : (s = 0 ∨ 24 ≤ n) → RT mX4_takesPlace none 16 [some (.ref 22), some (.int s), none] [] τ Q := by
    intro hh
    refine rt_run 1 rfl ?_
    refine rt_zret rfl rfl (Or.inl rfl) (h0 ?_)
    unfold tkPlace
    rw [if_pos (show s = 0 ∨ 24 ≤ n from hh)]
  refine rt_run 1 rfl ?_
  refine rt_if_eq rfl (fun hz => no (Or.inl hz)) (fun hz => ?_)
  refine rt_run 4 rfl ?_
  refine rt_lt n 24 rfl (by omega) (by omega) (fun hlt => ?_) (fun hge => ?_) r8
  · refine rt_run 1 rfl ?_
    refine rt_cV (ci := 4) mX4_closePart kX4_takesPlace_19 okX4_closePart rfl rfl rfl rfl rfl ?_
    refine closePart_spec hR0 (fun τ1 hO1 hR1 => ?_)
    have hn := (pClose_depth (rf, rl, cf, cl, pf, pl, sg, d, fol, be, n)).2.1
    have hk1 : ∀ τ' S', (match pClose (rf, rl, cf, cl, pf, pl, sg, d, fol, be, n) with
        | (rf, rl, cf, cl, _, _, _, d, fol, be, n) => some (rf, rl, cf, cl, 1 <<< (nI (n + 1) &&& 31), 1 <<< (nI (n + 1) &&& 31), 2, d, fol, fun x => if bt s x = true then be x ||| (1 <<< (nI (n + 1) &&& 31)) else be x, n + 1)) = some S' → Off kR τ τ' → RdIs τ' S' → Q (some (.int 1)) τ' := by
      intro τ' S' he
      refine h1 τ' S' ?_
      unfold tkPlace
      rw [if_neg (show ¬ (s = 0 ∨ 24 ≤ n) from fun hh => hh.elim hz (by omega))]
      exact he
    generalize pClose (rf, rl, cf, cl, pf, pl, sg, d, fol, be, n) = S1 at hR1 hk1 hn
    obtain ⟨rf1, rl1, cf1, cl1, pf1, pl1, sg1, d1, fol1, be1, n1⟩ := S1
    have hn : n1 = n := hn
    subst hn
    obtain ⟨s1, s2, s3, s4, s5, s6, s7, s8, s9, s10, s11⟩ := hR1
    refine rt_run 3 rfl ?_
    refine rt_cV (ci := 2) mX2_newPlace kX4_takesPlace_27 okX2_newPlace rfl rfl rfl rfl rfl ?_
    refine newPlace_spec (n := n1) (Or.inl rfl) s8 hlt (fun g hg => ?_)
    refine rt_run 4 rfl ?_
    refine rt_cV (ci := 4) mX4_openPart kX4_takesPlace_34 okX4_openPart rfl rfl rfl rfl rfl ?_
    refine openPart_spec (S := (rf1, rl1, cf1, cl1, pf1, pl1, sg1, d1, fol1, fun x => if bt s x = true then be1 x ||| (1 <<< (nI (n1 + 1) &&& 31)) else be1 x, n1 + 1)) ⟨s1, s2, s3, s4, s5, s6, s7, rfl, by omega, s10, fun x hx => ?_⟩ (fun τ2 hO2 hR2 => ?_)
    · show g x = _
      rw [hg x hx, show gI τ1 (23 + 2) x = be1 x from s11 x hx]
    · refine rt_run 1 rfl ?_
      exact rt_zret rfl rfl (Or.inr rfl) (hk1 τ2 _ rfl (((hO1.sF (by simp) _ _).sA (by simp) _).tr hO2) hR2)
  · exact no (Or.inr hge)
end RdBytes
end
section
/-! Reader.takes, faultOf -/
theorem takes_spec {b : Nat} {S : PSt} {τ : Ty} {Q : Option Value → Ty → Prop} (hb : b < 128) (hR : RdIs τ S) (h1 : ∀ τ' S', tk b S = some S' → Off kR τ τ' → RdIs τ' S' → Q (some (.int 1)) τ') (h0 : tk b S = none → Q (some (.int 0)) τ) : RT mX4_takes none 0 [some (.ref 22), some (.int (nI b))] [] τ Q := by
  have hbi : (nI b).toInt = (b : Int) := nI_toInt (by omega)
  refine rt_run 1 rfl ?_
  unfold tk at h1 h0
  by_cases c32 : b = 32
  · subst c32
    refine rt_ls (off := 67) (tgt := 68) rfl (by decide) (by decide) ?_
    refine rt_run 1 rfl ?_
    exact rt_zret rfl rfl (Or.inr rfl) (h1 τ S (by simp) (Off.rf _ _) hR)
  · rw [if_neg c32] at h1 h0
    by_cases c40 : b = 40
    · subst c40
      refine rt_ls (off := 69) (tgt := 70) rfl (by decide) (by decide) ?_
      refine rt_run 1 rfl ?_
      refine rt_cV (ci := 4) mX4_opens kX4_takes_71 okX4_opens rfl rfl rfl rfl rfl ?_
      rw [if_pos rfl] at h1 h0
      exact opens_spec hR (fun τ' S' e hO hR' => rt_zret rfl rfl (Or.inr rfl) (h1 τ' S' e hO hR')) (fun e => rt_zret rfl rfl (Or.inl rfl) (h0 e))
    · rw [if_neg c40] at h1 h0
      by_cases c41 : b = 41
      · subst c41
        refine rt_ls (off := 74) (tgt := 75) rfl (by decide) (by decide) ?_
        refine rt_run 1 rfl ?_
        refine rt_cV (ci := 4) mX4_closes kX4_takes_76 okX4_closes rfl rfl rfl rfl rfl ?_
        rw [if_pos rfl] at h1 h0
        exact closes_spec hR (fun τ' S' e hO hR' => rt_zret rfl rfl (Or.inr rfl) (h1 τ' S' e hO hR')) (fun e => rt_zret rfl rfl (Or.inl rfl) (h0 e))
      · rw [if_neg c41] at h1 h0
        by_cases c124 : b = 124
        · subst c124
          refine rt_ls (off := 79) (tgt := 80) rfl (by decide) (by decide) ?_
          refine rt_run 1 rfl ?_
          refine rt_cV (ci := 4) mX4_turns kX4_takes_81 okX4_turns rfl rfl rfl rfl rfl ?_
          rw [if_pos rfl] at h1 h0
          exact turns_spec hR (fun τ' S' e hO hR' => rt_zret rfl rfl (Or.inr rfl) (h1 τ' S' e hO hR')) (fun e => rt_zret rfl rfl (Or.inl rfl) (h0 e))
        · rw [if_neg c124] at h1 h0
          by_cases crep : b = 42 ∨ b = 43 ∨ b = 63
          · rw [if_pos crep] at h1 h0
            have go : RT mX4_takes none 85 [some (.ref 22), some (.int (nI b))] [] τ Q := by
              refine rt_run 2 rfl ?_
              refine rt_cV (ci := 4) mX4_repeats kX4_takes_87 okX4_repeats rfl rfl rfl rfl rfl ?_
              exact repeats_spec hb hR (fun τ' S' e hO hR' => rt_zret rfl rfl (Or.inr rfl) (h1 τ' S' e hO hR')) (fun e => rt_zret rfl rfl (Or.inl rfl) (h0 e))
            rcases crep with e | e | e
            · subst e; exact rt_ls (off := 84) (tgt := 85) rfl (by decide) (by decide) go
            · subst e; exact rt_ls (off := 84) (tgt := 85) rfl (by decide) (by decide) go
            · subst e; exact rt_ls (off := 84) (tgt := 85) rfl (by decide) (by decide) go
          · rw [if_neg crep] at h1 h0
            refine rt_ls (off := 90) (tgt := 91) rfl ?_ (by decide) ?_
            · rw [hbi]
              have h42 : b ≠ 42 := fun e => crep (Or.inl e)
              have h43 : b ≠ 43 := fun e => crep (Or.inr (Or.inl e))
              have h63 : b ≠ 63 := fun e => crep (Or.inr (Or.inr e))
              simp [Op.lookupswitch.offset]
              omega
            · refine rt_run 2 rfl ?_
              refine rt_cS mX4_signsOf kX4_takes_93 okX4_signsOf rfl rfl ?_
              refine signsOf_spec hb ?_
              refine rt_cV (ci := 4) mX4_takesPlace kX4_takes_96 okX4_takesPlace rfl rfl rfl rfl rfl ?_
              exact takesPlace_spec hR (fun τ' S' e hO hR' => rt_zret rfl rfl (Or.inr rfl) (h1 τ' S' e hO hR')) (fun e => rt_zret rfl rfl (Or.inl rfl) (h0 e))
def pS0 : PSt := (fun _ => 1, fun _ => 1, fun _ => 0, fun _ => 0, 0, 0, 0, 0, fun _ => 0, fun _ => 0, 0)
def psN (t : Nat → Nat) : Nat → Option PSt
  | 0 => some pS0
  | i + 1 => (psN t i).bind (tk (t i))
/-- the draft, as a state that has been read to its end leaves it -/
def DrIs (τ : Ty) : PSt → Prop
  | (_, _, cf, cl, _, _, _, _, fol, be, n) => gF τ 23 3 = nI n ∧ n ≤ 24 ∧ (∀ p, p < 25 → gI τ 24 p = if p = 0 then cf 0 &&& -2 else fol p) ∧ (∀ s, s < 8 → gI τ 25 s = be s) ∧ gF τ 23 2 = cl 0
theorem faultOf_spec {t : Nat → Nat} {m : Nat} {τ : Ty} {Q : Option Value → Ty → Prop} (hm : m ≤ 80) (ht : ∀ i, i < m → t i < 128 ∧ gI τ 20 i = nI (t i))
    (h1 : ∀ i S, i < m → psN t i = some S → tk (t i) S = none → ∀ τ', Off kR τ τ' → Q (some (.int (nI i))) τ') (h2 : ∀ S, psN t m = some S → (qStage S ≠ 2 ∨ qDepth S ≠ 0) → ∀ τ', Off kR τ τ' → Q (some (.int (nI m))) τ')
    (h3 : ∀ S, psN t m = some S → qStage S = 2 → qDepth S = 0 → ∀ τ', Off kR τ τ' → DrIs τ' (pCloseR S) → Q (some (.int (-1))) τ') :
    RT mX4_faultOf none 0 [some (.ref 22), some (.ref 20), some (.int (nI m)), none] [] τ Q := by
  have loop : ∀ d i τ' S, i + d = m → Off kR τ τ' → psN t i = some S → RdIs τ' S → RT mX4_faultOf none 23 [some (.ref 22), some (.ref 20), some (.int (nI m)), some (.int (nI i))] [] τ' Q := by
    intro d
    induction d with
    | zero =>
      intro i τ' S hi hO hS hR
      have : i = m := by omega
      subst this
      have hR0 := hR
      refine rt_run 2 rfl ?_
      refine rt_ge i i rfl (by omega) (by omega) (fun _ => ?_) (fun _ => by omega)
      have h2' := h2 S hS
      have h3' := h3 S hS
      obtain ⟨rf, rl, cf, cl, pf, pl, sg, dd, fol, be, n⟩ := S
      obtain ⟨r1, r2, r3, r4, r5, r6, r7, r8, r9, r10, r11⟩ := hR
      have no : (sg ≠ 2 ∨ dd ≠ 0) → RT mX4_faultOf none 67 [some (.ref 22), some (.ref 20), some (.int (nI i)), some (.int (nI i))] [] τ' Q := by
        intro hh
        refine rt_run 1 rfl ?_
        exact rt_iret rfl rfl (h2' hh τ' hO)
      refine rt_run 3 rfl ?_
      refine rt_ne sg 2 rfl (by omega) (by omega) (fun e => no (Or.inl e)) (fun e => ?_) r5
      refine rt_run 2 rfl ?_
      rw [r1]
      refine rt_if_eq rfl (fun hz => ?_) (fun hz => no (Or.inr (fun e => hz (by rw [e]; rfl))))
      have hd0 : dd = 0 := by
        by_cases h : dd = 0
        · exact h
        · exact absurd hz (nI_ne0 (by omega) (by omega))
      refine rt_run 1 rfl ?_
      refine rt_cV (ci := 4) mX4_closeRow kX4_faultOf_70 okX4_closeRow rfl rfl rfl rfl rfl ?_
      refine closeRow_spec hR0 (fun τ1 hO1 hR1 => ?_)
      have hd1 := (pCloseR_depth (rf, rl, cf, cl, pf, pl, sg, dd, fol, be, n)).1
      have h3'' := h3' e hd0
      generalize pCloseR (rf, rl, cf, cl, pf, pl, sg, dd, fol, be, n) = S1 at hR1 h3'' hd1
      obtain ⟨rf1, rl1, cf1, cl1, pf1, pl1, sg1, d1, fol1, be1, n1⟩ := S1
      obtain ⟨s1, s2, s3, s4, s5, s6, s7, s8, s9, s10, s11⟩ := hR1
      obtain ⟨q1, q2, q3, q4⟩ := s7 0 (Nat.zero_le _)
      refine rt_run 7 rfl ?_
      refine rt_ld 0 rfl (n := 81) rfl (by omega) ?_
      rw [q3]
      refine rt_run 2 rfl ?_
      refine rt_st 0 rfl (n := 25) rfl (by omega) ?_
      refine rt_run 5 rfl ?_
      refine rt_ld 0 rfl (n := 81) rfl (by omega) ?_
      rw [show gI (sI τ1 24 0 (cf1 0 &&& -2)) 29 0 = cl1 0 from q4]
      refine rt_run 2 rfl ?_
      refine rt_iret rfl rfl (h3'' _ (((hO.tr hO1).sI (by simp) _ _).sF (by simp) _ _) ⟨s8, s9, fun p hp => ?_, s11, rfl⟩)
      show upd (gI τ1 24) 0 (cf1 0 &&& -2) p = _
      unfold upd
      split
      · rfl
      · exact s10 p hp
    | succ d ih =>
      intro i τ' S hi hO hS hR
      obtain ⟨t1, t2⟩ := ht i (by omega)
      refine rt_run 2 rfl ?_
      refine rt_ge i m rfl (by omega) (by omega) (fun _ => by omega) (fun _ => ?_)
      refine rt_run 2 rfl ?_
      refine rt_ge i 80 rfl (by omega) (by omega) (fun _ => by omega) (fun _ => ?_)
      refine rt_run 3 rfl ?_
      refine rt_ld i rfl (n := 80) rfl (by omega) ?_
      rw [(hO.1 20 (by decide)).1, t2]
      refine rt_cV (ci := 4) mX4_takes kX4_faultOf_38 okX4_takes rfl rfl rfl rfl rfl ?_
      have hs1 : psN t (i + 1) = tk (t i) S := by
        show (psN t i).bind _ = _
        rw [hS]; rfl
      refine takes_spec t1 hR (fun τ2 S2 e hO2 hR2 => ?_) (fun e => ?_)
      · refine rt_if_ne rfl (fun _ => ?_) (fun hc => absurd hc (by decide))
        refine rt_run 2 rfl ?_
        rw [← nI_succ]
        exact ih (i + 1) τ2 S2 (by omega) (hO.tr hO2) (by rw [hs1]; exact e) hR2
      · refine rt_if_ne rfl (fun hc => absurd rfl hc) (fun _ => ?_)
        refine rt_run 1 rfl ?_
        exact rt_iret rfl rfl (h1 i S (by omega) hS e τ' hO)
  refine rt_run 2 rfl ?_
  refine rt_cV (ci := 2) mX2_wipe kX4_faultOf_4 okX2_wipe rfl rfl rfl rfl rfl ?_
  refine wipe_spec (Or.inl rfl) (fun f g hf hg => ?_)
  refine rt_run 7 rfl ?_
  refine rt_cV (ci := 4) mX4_beginChoice kX4_faultOf_18 okX4_beginChoice rfl rfl rfl rfl rfl ?_
  refine beginChoice_spec (S := (fun j => gI τ 26 j, fun j => gI τ 27 j, fun j => gI τ 28 j, fun j => gI τ 29 j, 0, 0, 0, 0, fun _ => 0, fun _ => 0, 0)) ⟨rfl, by decide, (fun e => by cases e), (fun e => by cases e), rfl, by decide, fun j _ => ⟨rfl, rfl, rfl, rfl⟩, rfl, by decide, hf, hg⟩ (fun τ1 hO1 hR1 => ?_)
  obtain ⟨s1, s2, s3, s4, s5, s6, s7, s8, s9, s10, s11⟩ := hR1
  refine rt_run 2 rfl ?_
  refine loop m 0 τ1 pS0 (by omega) ((((((((Off.rf _ _).sA (by simp) _).sA (by simp) _).sF (by simp) _ _).sF (by simp) _ _).sF (by simp) _ _).sF (by simp) _ _).sF (by simp) _ _ |>.tr hO1) rfl ⟨s1, s2, (fun e => by cases e), (fun e => by cases e), s5, s6, fun j hj => ?_, s8, s9, s10, s11⟩
  have : j = 0 := by omega
  subst this
  obtain ⟨q1, q2, q3, q4⟩ := s7 0 (Nat.le_refl _)
  exact ⟨q1.trans pk_us, q2.trans pk_us, q3.trans pk_us, q4.trans pk_us⟩
end
section
/-! the state that class and reference share, as the class holds it; its small methods -/
/-- edges, text, expressions, which one stands, what came, what was lost, how many calls were refused with BAD, NO, FULL -/
abbrev AS : Type := Gr × List Nat × (Nat → Option AE) × Option Nat × Int32 × Int32 × Int32 × Int32 × Int32
abbrev aG (a : AS) : Gr := a.1
abbrev aT (a : AS) : List Nat := a.2.1
abbrev aX (a : AS) : Nat → Option AE := a.2.2.1
abbrev aW (a : AS) : Option Nat := a.2.2.2.1
abbrev aC (a : AS) : Int32 := a.2.2.2.2.1
abbrev aLo (a : AS) : Int32 := a.2.2.2.2.2.1
abbrev aB (a : AS) : Int32 := a.2.2.2.2.2.2.1
abbrev aN (a : AS) : Int32 := a.2.2.2.2.2.2.2.1
abbrev aF (a : AS) : Int32 := a.2.2.2.2.2.2.2.2
/-- the standing answers from u, as bits -/
noncomputable def rowI (G : Gr) (X : Nat → Option AE) (w : Option Nat) (u : Nat) : Int32 := match w with
  | none => 0
  | some x => match X x with
    | none => 0
    | some A => vb (ansB (stL G none) A u) 10
def anyL : SL := (List.range 8).map (fun s => (0, s, 0, s))
def TxIs (τ : Ty) (T : List Nat) : Prop := gF τ 0 5 = nI T.length ∧ T.length ≤ 80 ∧ ∀ i b, T[i]? = some b → b < 128 ∧ gI τ 20 i = nI b
def XsIs (τ : Ty) (X : Nat → Option AE) : Prop := ∀ x, x < 4 → match X x with
  | none => gF τ (51 + 3 * x) 4 = 0 ∧ gF τ (51 + 3 * x) 3 = 0
  | some A => gF τ (51 + 3 * x) 4 = 1 ∧ ExIs τ (51 + 3 * x) A
def WsIs (τ : Ty) : Prop := ∃ wa wb, isW wa wb ∧ gW τ = (wa, wb)
def SdIs (τ : Ty) (a : AS) : Prop := gF τ 49 1 = wI (aW a) ∧ (∀ x, aW a = some x → x < 4 ∧ (aX a x).isSome = true) ∧ gF τ 49 2 = aC a ∧ gF τ 49 3 = aLo a ∧ ∀ u, u < 10 → gI τ 50 u = rowI (aG a) (aX a) (aW a) u
def CtIs (τ : Ty) (a : AS) : Prop := gF τ 0 13 = aB a ∧ gF τ 0 14 = aN a ∧ gF τ 0 15 = aF a
def CIs (τ : Ty) (a : AS) : Prop := EdIs τ (aG a) ∧ StIs τ 5 (stL (aG a) none) ∧ StIs τ 15 anyL ∧ TxIs τ (aT a) ∧ XsIs τ (aX a) ∧ WsIs τ ∧ SdIs τ a ∧ CtIs τ a
/-- cells that hold nothing between two calls -/
abbrev kX : List Nat := [10, 11, 12, 13, 14, 22, 23, 24, 25, 26, 27, 28, 29, 31, 32, 33, 35, 36, 37, 39, 40, 41, 42, 43, 44, 46, 47, 48]
/-- the reference's cells are as they were -/
def OffC (τ τ' : Ty) : Prop := ∀ k, 63 ≤ k → gI τ' k = gI τ k ∧ gL τ' k = gL τ k ∧ gF τ' k = gF τ k
theorem OffC.rf (τ : Ty) : OffC τ τ := fun _ _ => ⟨rfl, rfl, rfl⟩
theorem OffC.tr {τ τ' τ'' : Ty} (h : OffC τ τ') (h' : OffC τ' τ'') : OffC τ τ'' :=
  fun k hk => ⟨(h' k hk).1.trans (h k hk).1, (h' k hk).2.1.trans (h k hk).2.1, (h' k hk).2.2.trans (h k hk).2.2⟩
theorem OffW.c {ks : List Nat} {τ τ' : Ty} (h : OffW ks τ τ') (hs : ∀ k ∈ ks, k < 63) : OffC τ τ' := fun k hk => h k (fun hin => by have := hs k hin; omega)
theorem OffW.up {ks ks' : List Nat} {τ τ' : Ty} (h : OffW ks τ τ') (hs : ∀ k ∈ ks, k ∈ ks') : OffW ks' τ τ' := fun k hk => h k (fun hh => hk (hs k hh))
theorem isE_x {x : Nat} (hx : x < 4) : isE (51 + 3 * x) := by
  rcases (show x = 0 ∨ x = 1 ∨ x = 2 ∨ x = 3 by omega) with rfl | rfl | rfl | rfl
  · exact Or.inr (Or.inl rfl)
  · exact Or.inr (Or.inr (Or.inl rfl))
  · exact Or.inr (Or.inr (Or.inr (Or.inl rfl)))
  · exact Or.inr (Or.inr (Or.inr (Or.inr rfl)))
theorem XsIs.offW {ks : List Nat} {τ τ' : Ty} {X : Nat → Option AE} (h : XsIs τ X) (ho : OffW ks τ τ') (hk : ∀ k, 51 ≤ k → k < 63 → k ∉ ks) : XsIs τ' X := by
  intro x hx
  have h1 := h x hx
  have hF := (ho (51 + 3 * x) (hk _ (by omega) (by omega))).2.2
  cases hX : X x with
  | none =>
    rw [hX] at h1
    dsimp only at h1 ⊢
    rw [hF]
    exact h1
  | some A =>
    rw [hX] at h1
    dsimp only at h1 ⊢
    refine ⟨by rw [hF]; exact h1.1, h1.2.offW ho ⟨hk _ (by omega) (by omega), hk _ (by omega) (by omega), hk _ (by omega) (by omega)⟩⟩
theorem CIs.scr {τ τ' : Ty} {a : AS} (h : CIs τ a) (ho : OffW kX τ τ') (hw : WsIs τ') : CIs τ' a := by
  obtain ⟨h1, h2, h3, h4, h5, h6, h7, h8⟩ := h
  refine ⟨h1.offW ho (by decide), h2.offW ho (by decide), h3.offW ho (by decide), ?_, h5.offW ho (fun k h1 h2 hin => ?_), hw, ?_, ?_⟩
  · unfold TxIs at *
    rw [(ho 0 (by decide)).2.2, (ho 20 (by decide)).1]
    exact h4
  · have : ∀ k ∈ kX, k < 51 := by decide
    have := this k hin
    omega
  · unfold SdIs at *
    rw [(ho 49 (by decide)).2.2, (ho 50 (by decide)).1]
    exact h7
  · unfold CtIs at *
    rw [(ho 0 (by decide)).2.2]
    exact h8
theorem stL_ok {G : Gr} (hl : G.length ≤ 30) (hG : ∀ q ∈ G, q.1 < 10 ∧ q.2.1 < 4 ∧ q.2.2 < 10) (w : Option Nat) : StOk (stL G w) := by
  have hf : ∀ n, ∀ q ∈ fwdN G w n, q.1 < 10 ∧ q.2.1 < 8 ∧ q.2.2.1 < 10 := by
    intro n
    induction n with
    | zero => intro q hq; simp [fwdN] at hq
    | succ n ih =>
      intro q hq
      unfold fwdN at hq
      rcases List.mem_append.mp hq with hq | hq
      · exact ih q hq
      · cases hg : G[n]? with
        | none => rw [hg] at hq; simp at hq
        | some x =>
          rw [hg] at hq
          dsimp only at hq
          split at hq
          · simp at hq
          · simp at hq
            subst hq
            have := hG x (List.mem_of_getElem? hg)
            exact ⟨this.1, by show x.2.1 < 8; omega, this.2.2⟩
  have hb : ∀ n, ∀ q ∈ bwdN G w n, q.1 < 10 ∧ q.2.1 < 8 ∧ q.2.2.1 < 10 := by
    intro n
    induction n with
    | zero => intro q hq; simp [bwdN] at hq
    | succ n ih =>
      intro q hq
      unfold bwdN at hq
      rcases List.mem_append.mp hq with hq | hq
      · exact ih q hq
      · cases hg : G[n]? with
        | none => rw [hg] at hq; simp at hq
        | some x =>
          rw [hg] at hq
          dsimp only at hq
          split at hq
          · simp at hq
          · simp at hq
            subst hq
            have := hG x (List.mem_of_getElem? hg)
            exact ⟨this.2.2, by show x.2.1 + 4 < 8; omega, this.1⟩
  refine ⟨?_, fun q hq => ?_⟩
  · unfold stL
    rw [List.length_append]
    have := fwdN_len G w G.length
    have := bwdN_len G w G.length
    omega
  · rcases List.mem_append.mp hq with hq | hq
    · exact hf _ q hq
    · exact hb _ q hq
theorem EdIs.ok {τ : Ty} {G : Gr} (h : EdIs τ G) (w : Option Nat) : StOk (stL G w) := stL_ok h.2.2.1 h.2.2.2 w
theorem anyL_ok : StOk anyL := by
  refine ⟨by decide, fun q hq => ?_⟩
  revert q
  decide
section ClSmall
variable {τ : Ty} {Q : Option Value → Ty → Prop}
theorem isVertex_spec {x : Int32} (h0 : (¬ ∃ j, j < 10 ∧ x = nI j) → Q (some (.int 0)) τ) (h1 : ∀ j, j < 10 → x = nI j → Q (some (.int 1)) τ) : RT mX10_isVertex none 0 [some (.int x)] [] τ Q := by
  have no : (¬ ∃ j, j < 10 ∧ x = nI j) → RT mX10_isVertex none 14 [some (.int x)] [] τ Q := by
    intro hh
    refine rt_run 1 rfl ?_
    exact rt_zret rfl rfl (Or.inl rfl) (h0 hh)
  refine rt_run 1 rfl ?_
  refine rt_if_lt rfl (fun hc => no ?_) (fun hc => ?_)
  · rintro ⟨j, hj, rfl⟩
    exact nI_pos (by omega) hc
  · refine rt_run 2 rfl ?_
    refine rt_ic_ge rfl (fun hd => no ?_) (fun hd => ?_)
    · rintro ⟨j, hj, rfl⟩
      exact nI_ge hj (by decide) hd
    · refine rt_run 2 rfl ?_
      rcases pk_ix x (n := 10) (by decide) with h | h | ⟨j, hj, e⟩
      · exact absurd h hc
      · exact absurd h hd
      · exact rt_zret rfl rfl (Or.inr rfl) (h1 j hj e)
theorem isExpr_spec {x : Int32} (h0 : (¬ ∃ j, j < 4 ∧ x = nI j) → Q (some (.int 0)) τ) (h1 : ∀ j, j < 4 → x = nI j → Q (some (.int 1)) τ) : RT mX10_isExpression none 0 [some (.int x)] [] τ Q := by
  have no : (¬ ∃ j, j < 4 ∧ x = nI j) → RT mX10_isExpression none 13 [some (.int x)] [] τ Q := by
    intro hh
    refine rt_run 1 rfl ?_
    exact rt_zret rfl rfl (Or.inl rfl) (h0 hh)
  refine rt_run 1 rfl ?_
  refine rt_if_lt rfl (fun hc => no ?_) (fun hc => ?_)
  · rintro ⟨j, hj, rfl⟩
    exact nI_pos (by omega) hc
  · refine rt_run 2 rfl ?_
    refine rt_ic_ge rfl (fun hd => no ?_) (fun hd => ?_)
    · rintro ⟨j, hj, rfl⟩
      exact nI_ge hj (by decide) hd
    · refine rt_run 2 rfl ?_
      rcases pk_ix x (n := 4) (by decide) with h | h | ⟨j, hj, e⟩
      · exact absurd h hc
      · exact absurd h hd
      · exact rt_zret rfl rfl (Or.inr rfl) (h1 j hj e)
/-- one more call refused -/
def refA (r : Int32) (a : AS) : AS := (aG a, aT a, aX a, aW a, aC a, aLo a, if r = -2 then aB a + 1 else aB a, if r = -3 then aN a + 1 else aN a, if r = -4 then aF a + 1 else aF a)
theorem CIs.ct {τ : Ty} {a : AS} {j : Nat} {x : Int32} (h : CIs τ a) (hj : 13 ≤ j) {B N F : Int32} (hB : upd (gF τ 0) j x 13 = B) (hN : upd (gF τ 0) j x 14 = N) (hF : upd (gF τ 0) j x 15 = F) : CIs (sF τ 0 j x) (aG a, aT a, aX a, aW a, aC a, aLo a, B, N, F) := by
  obtain ⟨h1, h2, h3, h4, h5, h6, h7, h8⟩ := h
  have ho : OffW [0] τ (sF τ 0 j x) := ((Off.rf _ _).sF (by simp) _ _).w
  refine ⟨h1.offW ho (by decide), h2.offW ho (by decide), h3.offW ho (by decide), ⟨?_, h4.2⟩, h5.offW ho (fun k h1 h2 hin => by simp at hin; omega), h6, h7, ⟨hB, hN, hF⟩⟩
  show upd (gF τ 0) j x 5 = _
  rw [pk_un (by omega)]
  exact h4.1
theorem refuse_spec {a : AS} {r : Int32} (hC : CIs τ a) (hr : r = -2 ∨ r = -3 ∨ r = -4) (h : ∀ τ', OffC τ τ' → CIs τ' (refA r a) → Q (some (.int r)) τ') : RT mX10_refuse none 0 [some (.ref 0), some (.int r)] [] τ Q := by
  obtain ⟨e1, e2, e3⟩ := hC.2.2.2.2.2.2.2
  have ho : ∀ j x, OffC τ (sF τ 0 j x) := fun j x => ((Off.rf [0] τ).sF (by simp) j x).w.c (by simp)
  rcases hr with rfl | rfl | rfl
  · refine rt_run 2 rfl ?_
    refine rt_ic_ne rfl (fun hc => absurd rfl hc) (fun _ => ?_)
    refine rt_run 8 rfl ?_
    refine rt_iret rfl rfl (h _ (ho _ _) (hC.ct (by decide) ?_ ?_ ?_))
    · rw [pk_us, e1]; rfl
    · rw [pk_un (by decide), e2]; rfl
    · rw [pk_un (by decide), e3]; rfl
  · refine rt_run 2 rfl ?_
    refine rt_ic_ne rfl (fun _ => ?_) (fun hc => absurd hc (by decide))
    refine rt_run 2 rfl ?_
    refine rt_ic_ne rfl (fun hc => absurd rfl hc) (fun _ => ?_)
    refine rt_run 8 rfl ?_
    refine rt_iret rfl rfl (h _ (ho _ _) (hC.ct (by decide) ?_ ?_ ?_))
    · rw [pk_un (by decide), e1]; rfl
    · rw [pk_us, e2]; rfl
    · rw [pk_un (by decide), e3]; rfl
  · refine rt_run 2 rfl ?_
    refine rt_ic_ne rfl (fun _ => ?_) (fun hc => absurd hc (by decide))
    refine rt_run 2 rfl ?_
    refine rt_ic_ne rfl (fun _ => ?_) (fun hc => absurd hc (by decide))
    refine rt_run 7 rfl ?_
    refine rt_iret rfl rfl (h _ (ho _ _) (hC.ct (by decide) ?_ ?_ ?_))
    · rw [pk_un (by decide), e1]; rfl
    · rw [pk_un (by decide), e2]; rfl
    · rw [pk_us, e3]; rfl
theorem orRefused_spec {a : AS} {r : Int32} (hC : CIs τ a) (h : ∀ τ', OffC τ τ' → CIs τ' (if r = -4 then refA (-4) a else a) → Q (some (.int r)) τ') : RT mX10_orRefused none 0 [some (.ref 0), some (.int r)] [] τ Q := by
  refine rt_run 2 rfl ?_
  refine rt_ic_ne rfl (fun hc => ?_) (fun hc => ?_)
  · rw [if_neg hc] at h
    refine rt_run 1 rfl ?_
    exact rt_iret rfl rfl (h τ (OffC.rf _) hC)
  · subst hc
    rw [if_pos rfl] at h
    refine rt_run 2 rfl ?_
    refine rt_cV (ci := 10) mX10_refuse kX10_orRefused_9 okX10_refuse rfl rfl rfl rfl rfl ?_
    refine refuse_spec hC (Or.inr (Or.inr rfl)) (fun τ' hO hC' => ?_)
    refine rt_run 1 rfl ?_
    exact rt_iret rfl rfl (h τ' hO hC')
/-- what a call about routes is refused with -/
noncomputable def rfOf (a : AS) (x u v : Int32) : Int32 := @ite _ ((∃ i, i < 4 ∧ x = nI i) ∧ (∃ j, j < 10 ∧ u = nI j) ∧ ∃ k, k < 10 ∧ v = nI k) (Classical.propDecidable _) (@ite _ (∃ i, i < 4 ∧ x = nI i ∧ (aX a i).isSome = true) (Classical.propDecidable _) 0 (-3)) (-2)
theorem refusalOf_spec {a : AS} {x u v : Int32} (hC : CIs τ a) (hbad : ¬ ((∃ i, i < 4 ∧ x = nI i) ∧ (∃ j, j < 10 ∧ u = nI j) ∧ ∃ k, k < 10 ∧ v = nI k) → Q (some (.int (-2))) τ) (hno : ∀ i j k, i < 4 → j < 10 → k < 10 → x = nI i → u = nI j → v = nI k → aX a i = none → Q (some (.int (-3))) τ) (hok : ∀ i j k A, i < 4 → j < 10 → k < 10 → x = nI i → u = nI j → v = nI k → aX a i = some A → ExIs τ (51 + 3 * i) A → Q (some (.int 0)) τ) :
    RT mX10_refusalOf none 0 [some (.ref 0), some (.int x), some (.int u), some (.int v)] [] τ Q := by
  have no : ¬ ((∃ i, i < 4 ∧ x = nI i) ∧ (∃ j, j < 10 ∧ u = nI j) ∧ ∃ k, k < 10 ∧ v = nI k) → RT mX10_refusalOf none 21 [some (.ref 0), some (.int x), some (.int u), some (.int v)] [] τ Q := by
    intro hh
    refine rt_run 1 rfl ?_
    exact rt_iret rfl rfl (hbad hh)
  refine rt_run 1 rfl ?_
  refine rt_cS mX10_isExpression kX10_refusalOf_1 okX10_isExpression rfl rfl ?_
  refine isExpr_spec (fun hh => ?_) (fun i hi ei => ?_)
  · refine rt_if_eq rfl (fun _ => no (fun g => hh g.1)) (fun hc => absurd rfl hc)
  · refine rt_if_eq rfl (fun hc => absurd hc (by decide)) (fun _ => ?_)
    refine rt_run 1 rfl ?_
    refine rt_cS mX10_isVertex kX10_refusalOf_8 okX10_isVertex rfl rfl ?_
    refine isVertex_spec (fun hh => ?_) (fun j hj ej => ?_)
    · refine rt_if_eq rfl (fun _ => no (fun g => hh g.2.1)) (fun hc => absurd rfl hc)
    · refine rt_if_eq rfl (fun hc => absurd hc (by decide)) (fun _ => ?_)
      refine rt_run 1 rfl ?_
      refine rt_cS mX10_isVertex kX10_refusalOf_15 okX10_isVertex rfl rfl ?_
      refine isVertex_spec (fun hh => ?_) (fun k hk ek => ?_)
      · refine rt_if_ne rfl (fun hc => absurd rfl hc) (fun _ => no (fun g => hh g.2.2))
      · refine rt_if_ne rfl (fun _ => ?_) (fun hc => absurd hc (by decide))
        subst ei; subst ej; subst ek
        have hX := hC.2.2.2.2.1 i hi
        obtain ⟨f0, f1, f2, f3, f4, a0, a1, h38⟩ := isE_f (isE_x hi)
        refine rt_run 3 rfl ?_
        refine rt_aald rfl hi ?_
        refine rt_getI rfl f4 ?_
        cases hA : aX a i with
        | none =>
          rw [hA] at hX
          refine rt_if_eq rfl (fun _ => ?_) (fun hc => absurd hX.1 hc)
          refine rt_run 1 rfl ?_
          exact rt_iret rfl rfl (hno i j k hi hj hk rfl rfl rfl hA)
        | some A =>
          rw [hA] at hX
          refine rt_if_eq rfl (fun hc => ?_) (fun _ => ?_)
          · rw [hX.1] at hc
            exact absurd hc (by decide)
          · refine rt_run 2 rfl ?_
            exact rt_iret rfl rfl (hok i j k A hi hj hk rfl rfl rfl hA hX.2)
end ClSmall
end
section
/-! the class's shared methods: size, placesOfAll, answersOf, isAnswerWithout, keepAnswers, graphChanged -/
/-- a sum of ints -/
def smI (f : Nat → Int32) : Nat → Int32
  | 0 => 0
  | n + 1 => smI f n + f n
theorem smI_ext {f g : Nat → Int32} {n : Nat} (h : ∀ i, i < n → f i = g i) : smI f n = smI g n := by
  induction n with
  | zero => rfl
  | succ n ih =>
    unfold smI
    rw [ih (fun i hi => h i (by omega)), h n (by omega)]
noncomputable def szI (a : AS) : Int32 := smI (fun u => bcI (rowI (aG a) (aX a) (aW a) u)) 10
def Sd0 (τ : Ty) (a : AS) : Prop := gF τ 49 1 = wI (aW a) ∧ (∀ x, aW a = some x → x < 4 ∧ (aX a x).isSome = true) ∧ gF τ 49 2 = aC a ∧ gF τ 49 3 = aLo a
/-- the state but for its steps and its standing answers -/
def CI1 (τ : Ty) (a : AS) : Prop := EdIs τ (aG a) ∧ StIs τ 15 anyL ∧ TxIs τ (aT a) ∧ XsIs τ (aX a) ∧ WsIs τ ∧ Sd0 τ a ∧ CtIs τ a
theorem CIs.one {τ : Ty} {a : AS} (h : CIs τ a) : CI1 τ a := by
  obtain ⟨h1, h2, h3, h4, h5, h6, h7, h8⟩ := h
  exact ⟨h1, h3, h4, h5, h6, ⟨h7.1, h7.2.1, h7.2.2.1, h7.2.2.2.1⟩, h8⟩
theorem CI1.all {τ : Ty} {a : AS} (h : CI1 τ a) (hs : StIs τ 5 (stL (aG a) none)) (hr : ∀ u, u < 10 → gI τ 50 u = rowI (aG a) (aX a) (aW a) u) : CIs τ a := by
  obtain ⟨h1, h3, h4, h5, h6, h7, h8⟩ := h
  exact ⟨h1, hs, h3, h4, h5, h6, ⟨h7.1, h7.2.1, h7.2.2.1, h7.2.2.2, hr⟩, h8⟩
theorem WsIs.eq {τ τ' : Ty} (h : WsIs τ) (e : gW τ' = gW τ) : WsIs τ' := by
  obtain ⟨wa, wb, h1, h2⟩ := h
  exact ⟨wa, wb, h1, e.trans h2⟩
theorem CI1.offW {ks : List Nat} {τ τ' : Ty} {a : AS} (h : CI1 τ a) (ho : OffW ks τ τ') (hw : WsIs τ') (hk : ∀ k ∈ [0, 1, 2, 3, 4, 15, 16, 17, 18, 19, 20, 49, 51, 52, 53, 54, 55, 56, 57, 58, 59, 60, 61, 62], k ∉ ks) : CI1 τ' a := by
  obtain ⟨h1, h3, h4, h5, h6, h7, h8⟩ := h
  refine ⟨h1.offW ho ⟨hk _ (by decide), hk _ (by decide), hk _ (by decide), hk _ (by decide)⟩, h3.offW ho ⟨hk _ (by decide), hk _ (by decide), hk _ (by decide), hk _ (by decide), hk _ (by decide)⟩, ?_, h5.offW ho (fun k g1 g2 => ?_), hw, ?_, ?_⟩
  · unfold TxIs at *
    rw [(ho 0 (hk _ (by decide))).2.2, (ho 20 (hk _ (by decide))).1]
    exact h4
  · refine hk k ?_
    rcases (show k = 51 ∨ k = 52 ∨ k = 53 ∨ k = 54 ∨ k = 55 ∨ k = 56 ∨ k = 57 ∨ k = 58 ∨ k = 59 ∨ k = 60 ∨ k = 61 ∨ k = 62 by omega) with rfl | rfl | rfl | rfl | rfl | rfl | rfl | rfl | rfl | rfl | rfl | rfl <;> decide
  · unfold Sd0 at *
    rw [(ho 49 (hk _ (by decide))).2.2]
    exact h7
  · unfold CtIs at *
    rw [(ho 0 (hk _ (by decide))).2.2]
    exact h8
section ClShared
variable {τ : Ty} {Q : Option Value → Ty → Prop} {a : AS}
theorem size_spec (hC : CIs τ a) (h : Q (some (.int (szI a))) τ) : RT mX6_size none 0 [some (.ref 49), none, none] [] τ Q := by
  have hr := hC.2.2.2.2.2.2.1.2.2.2.2
  have loop : ∀ d u, u + d = 10 → RT mX6_size none 4 [some (.ref 49), some (.int (smI (fun u => bcI (rowI (aG a) (aX a) (aW a) u)) u)), some (.int (nI u))] [] τ Q := by
    intro d
    induction d with
    | zero =>
      intro u hu
      have : u = 10 := by omega
      subst this
      refine rt_run 2 rfl ?_
      refine rt_ge 10 10 rfl (by omega) (by omega) (fun _ => ?_) (fun _ => by omega)
      refine rt_run 1 rfl ?_
      exact rt_iret rfl rfl h
    | succ d ih =>
      intro u hu
      refine rt_run 2 rfl ?_
      refine rt_ge u 10 rfl (by omega) (by omega) (fun _ => by omega) (fun _ => ?_)
      refine rt_run 4 rfl ?_
      refine rt_ld u rfl (n := 10) rfl (by omega) ?_
      rw [hr u (by omega)]
      refine rt_cS mJ6_bitCount_0f7a4 kX6_size_17 okJ6_bitCount_0f7a4 rfl rfl ?_
      refine bitCount_spec ?_
      refine rt_run 4 rfl ?_
      rw [← nI_succ]
      exact ih (u + 1) (by omega)
  refine rt_run 4 rfl ?_
  exact loop 10 0 (by omega)
def plI (X : Nat → Option AE) (x : Nat) : Int32 := match X x with
  | none => 0
  | some A => nI A.2.2.2
theorem placesOfAll_spec (hC : CIs τ a) (h : Q (some (.int (smI (plI (aX a)) 4))) τ) : RT mX10_placesOfAll none 0 [some (.ref 0), none, none] [] τ Q := by
  have hX := hC.2.2.2.2.1
  have loop : ∀ d u, u + d = 4 → RT mX10_placesOfAll none 4 [some (.ref 0), some (.int (smI (plI (aX a)) u)), some (.int (nI u))] [] τ Q := by
    intro d
    induction d with
    | zero =>
      intro u hu
      have : u = 4 := by omega
      subst this
      refine rt_run 2 rfl ?_
      refine rt_ge 4 4 rfl (by omega) (by omega) (fun _ => ?_) (fun _ => by omega)
      refine rt_run 1 rfl ?_
      exact rt_iret rfl rfl h
    | succ d ih =>
      intro u hu
      obtain ⟨f0, f1, f2, f3, f4, a0, a1, h38⟩ := isE_f (isE_x (x := u) (by omega))
      refine rt_run 2 rfl ?_
      refine rt_ge u 4 rfl (by omega) (by omega) (fun _ => by omega) (fun _ => ?_)
      refine rt_run 4 rfl ?_
      refine rt_aald rfl (by omega) ?_
      refine rt_getI rfl f3 ?_
      have e : gF τ (51 + 3 * u) 3 = plI (aX a) u := by
        have h1 := hX u (by omega)
        unfold plI
        cases hA : aX a u with
        | none => rw [hA] at h1; exact h1.2
        | some A => rw [hA] at h1; exact h1.2.1
      rw [e]
      refine rt_run 4 rfl ?_
      rw [← nI_succ]
      exact ih (u + 1) (by omega)
  refine rt_run 4 rfl ?_
  exact loop 4 0 (by omega)
noncomputable def anI (L : SL) (A : AE) : Int32 := smI (fun u => bcI (vb (ansB L A u) 10)) 10
theorem answersOf_spec {ke : Nat} {A : AE} {L : SL} (hke : isE ke) (hE : ExIs τ ke A) (hS : StIs τ 5 L) (hL : StOk L) (h : ∀ τ', Off [31, 32, 33] τ τ' → Q (some (.int (anI L A))) τ') : RT mX10_answersOf none 0 [some (.ref 0), some (.ref ke), none, none] [] τ Q := by
  have loop : ∀ d u τ', u + d = 10 → Off [31, 32, 33] τ τ' → RT mX10_answersOf none 4 [some (.ref 0), some (.ref ke), some (.int (smI (fun u => bcI (vb (ansB L A u) 10)) u)), some (.int (nI u))] [] τ' Q := by
    intro d
    induction d with
    | zero =>
      intro u τ' hu hO
      have : u = 10 := by omega
      subst this
      refine rt_run 2 rfl ?_
      refine rt_ge 10 10 rfl (by omega) (by omega) (fun _ => ?_) (fun _ => by omega)
      refine rt_run 1 rfl ?_
      exact rt_iret rfl rfl (h τ' hO)
    | succ d ih =>
      intro u τ' hu hO
      refine rt_run 2 rfl ?_
      refine rt_ge u 10 rfl (by omega) (by omega) (fun _ => by omega) (fun _ => ?_)
      refine rt_run 7 rfl ?_
      refine rt_cV (ci := 3) mX3_endsFrom kX10_answersOf_21 okX3_endsFrom rfl rfl rfl rfl rfl ?_
      refine endsFrom_spec hke (Or.inl rfl) (hE.off hO (offE hke)) (hS.off hO (offS (Or.inl rfl))) hL (by omega) (fun τ2 hO2 => ?_)
      refine rt_cS mJ6_bitCount_0f7a4 kX10_answersOf_24 okJ6_bitCount_0f7a4 rfl rfl ?_
      refine bitCount_spec ?_
      refine rt_run 4 rfl ?_
      rw [← nI_succ]
      exact ih (u + 1) τ2 (by omega) (hO.tr hO2)
  refine rt_run 4 rfl ?_
  exact loop 10 0 τ (by omega) (Off.rf _ _)
theorem isAnswerWithout_spec {ke u v e : Nat} {A : AE} {G : Gr} (hke : isE ke) (hE : ExIs τ ke A) (hG : EdIs τ G) (hu : u < 10) (hv : v < 10) (he : e < 30)
    (h : ∀ τ', Off [10, 11, 12, 13, 14, 31, 32, 33] τ τ' → Q (some (.int (if ansB (stL G (some e)) A u v = true then 1 else 0))) τ') :
    RT mX10_isAnswerWithout none 0 [some (.ref 0), some (.ref ke), some (.int (nI u)), some (.int (nI v)), some (.int (nI e))] [] τ Q := by
  refine rt_run 5 rfl ?_
  refine rt_cV (ci := 1) mX1_spell kX10_isAnswerWithout_10 okX1_spell rfl rfl rfl rfl rfl ?_
  refine spell_spec (w := some e) (Or.inr (Or.inl rfl)) hG (fun e' h' => by cases h'; omega) (fun τ1 hO1 hS1 => ?_)
  refine rt_run 6 rfl ?_
  refine rt_cV (ci := 3) mX3_endsFrom kX10_isAnswerWithout_23 okX3_endsFrom rfl rfl rfl rfl rfl ?_
  refine endsFrom_spec hke (Or.inr (Or.inl rfl)) (hE.off hO1 ?_) hS1 (hG.ok _) hu (fun τ2 hO2 => ?_)
  · rcases hke with rfl | rfl | rfl | rfl | rfl <;> decide
  · have hh := h τ2 ((hO1.up (by simp)).tr (hO2.up (by simp)))
    refine rt_run 4 rfl ?_
    have hb : bt (vb (ansB (stL G (some e)) A u) 10) v = ansB (stL G (some e)) A u v := by
      rw [vb_bt _ _ (by omega) (by omega)]; simp [hv]
    rw [b_t1 (by omega), hb]
    cases hx : ansB (stL G (some e)) A u v with
    | true =>
      rw [hx] at hh
      refine rt_if_eq rfl (fun hc => absurd hc (by decide)) (fun _ => ?_)
      refine rt_run 2 rfl ?_
      exact rt_zret rfl rfl (Or.inr rfl) hh
    | false =>
      rw [hx] at hh
      refine rt_if_eq rfl (fun _ => ?_) (fun hc => absurd rfl hc)
      refine rt_run 1 rfl ?_
      exact rt_zret rfl rfl (Or.inl rfl) hh
theorem keepAnswers_spec (hC : CI1 τ a) (hS : StIs τ 5 (stL (aG a) none)) (h : ∀ τ', Off [31, 32, 33, 50] τ τ' → CIs τ' a → Q none τ') : RT mX10_keepAnswers none 0 [some (.ref 0), none] [] τ Q := by
  have loop : ∀ d u τ', u + d = 10 → Off [31, 32, 33, 50] τ τ' → (∀ v, v < u → gI τ' 50 v = rowI (aG a) (aX a) (aW a) v) → RT mX10_keepAnswers none 2 [some (.ref 0), some (.int (nI u))] [] τ' Q := by
    intro d
    induction d with
    | zero =>
      intro u τ' hu hO hr
      refine rt_run 2 rfl ?_
      refine rt_ge u 10 rfl (by omega) (by omega) (fun _ => ?_) (fun _ => by omega)
      refine rt_vret rfl rfl (h τ' hO ((hC.offW hO.w (hC.2.2.2.2.1.eq hO.2) (by decide)).all (hS.off hO (by decide)) (fun v hv => hr v (by omega))))
    | succ d ih =>
      intro u τ' hu hO hr
      have hC' := hC.offW hO.w (hC.2.2.2.2.1.eq hO.2) (by decide)
      have hS' := hS.off hO (by decide)
      obtain ⟨w1, w2, -, -⟩ := hC'.2.2.2.2.2.1
      have fin : ∀ τ2 x, Off [31, 32, 33, 50] τ τ2 → gI τ2 50 = gI τ' 50 → x = rowI (aG a) (aX a) (aW a) u → RT mX10_keepAnswers none 55 [some (.ref 0), some (.int (nI u))] [.int x, .int (nI u), .ref 50] τ2 Q := by
        intro τ2 x hO2 e50 hx
        refine rt_st u rfl (n := 10) rfl (by omega) ?_
        refine rt_run 2 rfl ?_
        rw [← nI_succ]
        refine ih (u + 1) _ (by omega) (hO2.sI (by simp) _ _) (fun v hv => ?_)
        rw [gI_sI, if_pos rfl]
        by_cases hvu : v = u
        · subst hvu; rw [pk_us]; exact hx
        · rw [pk_un hvu, e50]; exact hr v (by omega)
      refine rt_run 2 rfl ?_
      refine rt_ge u 10 rfl (by omega) (by omega) (fun _ => by omega) (fun _ => ?_)
      refine rt_run 8 rfl ?_
      cases hW : aW a with
      | none =>
        refine rt_ic_ne rfl (fun hc => absurd (by rw [w1, hW]; rfl) hc) (fun _ => ?_)
        refine rt_run 2 rfl ?_
        exact fin τ' 0 hO rfl (by rw [hW]; rfl)
      | some x =>
        obtain ⟨hx, hsome⟩ := w2 x hW
        have ew : gF τ' 49 1 = nI x := by rw [w1, hW]; rfl
        refine rt_ic_ne rfl (fun _ => ?_) (fun hc => absurd (ew.symm.trans hc) (neg1 (by omega)))
        refine rt_run 7 rfl ?_
        rw [ew]
        refine rt_aald rfl hx ?_
        refine rt_run 3 rfl ?_
        have hXx := hC'.2.2.2.1 x hx
        cases hA : aX a x with
        | none => rw [hA] at hsome; cases hsome
        | some A =>
          rw [hA] at hXx
          refine rt_cV (ci := 3) mX3_endsFrom kX10_keepAnswers_52 okX3_endsFrom rfl rfl rfl rfl rfl ?_
          refine endsFrom_spec (isE_x hx) (Or.inl rfl) hXx.2 hS' (hC'.1.ok _) (by omega) (fun τ2 hO2 => ?_)
          refine fin τ2 _ (hO.tr (hO2.up (by simp))) (hO2.1 50 (by decide)).1 ?_
          rw [hW]
          simp only [rowI, hA]
  refine rt_run 2 rfl ?_
  exact loop 10 0 τ (by omega) (Off.rf _ _) (fun v hv => by omega)
theorem graphChanged_spec (hC : CI1 τ a) (h : ∀ τ', Off [5, 6, 7, 8, 9, 31, 32, 33, 50] τ τ' → CIs τ' a → Q none τ') : RT mX10_graphChanged none 0 [some (.ref 0)] [] τ Q := by
  refine rt_run 5 rfl ?_
  refine rt_cV (ci := 1) mX1_spell kX10_graphChanged_9 okX1_spell rfl rfl rfl rfl rfl ?_
  refine spell_spec (w := none) (Or.inl rfl) hC.1 (fun e' h' => by cases h') (fun τ1 hO1 hS1 => ?_)
  refine rt_run 1 rfl ?_
  refine rt_cV (ci := 10) mX10_keepAnswers kX10_graphChanged_13 okX10_keepAnswers rfl rfl rfl rfl rfl ?_
  refine keepAnswers_spec (a := a) (hC.offW hO1.w (hC.2.2.2.2.1.eq hO1.2) (by decide)) hS1 (fun τ2 hO2 hC2 => ?_)
  exact rt_vret rfl rfl (h τ2 ((hO1.up (by simp)).tr (hO2.up (by simp))) hC2)
end ClShared
end
section
/-! what the calls answer and leave, as functions of the state; the class's edge, drop, anew, of, degree, type, clear -/
/-- an int as a number below n -/
def rn (n : Nat) (x : Int32) : Option Nat := if 0 ≤ x ∧ x < nI n then some x.toNatClampNeg else none
theorem rn_so {n j : Nat} (hj : j < n) (hn : n < 2 ^ 31) : rn n (nI j) = some j := by
  unfold rn
  rw [if_pos ⟨nI_pos' (by omega), nI_lt hj hn⟩, nI_clamp (by omega)]
theorem rn_out {n : Nat} {x : Int32} (h : x < 0 ∨ nI n ≤ x) : rn n x = none := by
  unfold rn
  rw [if_neg]
  rintro ⟨h1, h2⟩
  rw [Int32.lt_iff_toInt_lt] at h2
  rw [Int32.le_iff_toInt_le] at h1
  rcases h with h | h
  · rw [Int32.lt_iff_toInt_lt] at h
    omega
  · rw [Int32.le_iff_toInt_le] at h
    omega
theorem rn_no {n : Nat} {x : Int32} (hn : n < 2 ^ 31) (h : ¬ ∃ j, j < n ∧ x = nI j) : rn n x = none := by
  rcases pk_ix x (n := n) hn with g | g | ⟨j, hj, e⟩
  · exact rn_out (Or.inl g)
  · exact rn_out (Or.inr g)
  · exact absurd ⟨j, hj, e⟩ h
abbrev Rs : Type := Int32 × AS
def rfA (r : Int32) (a : AS) : Rs := (r, refA r a)
def sG (a : AS) (G : Gr) : AS := (G, a.2)
def sT (a : AS) (T : List Nat) : AS := (a.1, T, a.2.2)
def sC (a : AS) (r : Int32) : AS := (a.1, a.2.1, a.2.2.1, a.2.2.2.1, r, a.2.2.2.2.2)
def sLo (a : AS) (r : Int32) : AS := (a.1, a.2.1, a.2.2.1, a.2.2.2.1, a.2.2.2.2.1, r, a.2.2.2.2.2.2)
noncomputable def edgeA (a : AS) (u l v : Int32) : Rs := match rn 10 u with
  | none => rfA (-2) a
  | some u => match rn 4 l with
    | none => rfA (-2) a
    | some l => match rn 10 v with
      | none => rfA (-2) a
      | some v => if (u, l, v) ∈ aG a then rfA (-3) a else if 30 ≤ (aG a).length then rfA (-4) a else
        (szI (sG a (aG a ++ [(u, l, v)])) - szI a, sC (sG a (aG a ++ [(u, l, v)])) (aC a + (szI (sG a (aG a ++ [(u, l, v)])) - szI a)))
noncomputable def dropA (a : AS) (e : Int32) : Rs := match rn (aG a).length e with
  | none => rfA (-2) a
  | some e => (szI a - szI (sG a ((aG a).eraseIdx e)), sLo (sG a ((aG a).eraseIdx e)) (aLo a + (szI a - szI (sG a ((aG a).eraseIdx e)))))
def anewA (a : AS) : Rs := (nI (aG a).length, sG a [])
def ofV (G : Gr) (e w : Nat) : Int32 := match G[e]? with
  | none => 0
  | some q => if w = 0 then nI q.1 else if w = 1 then nI q.2.1 else nI q.2.2
def ofA (a : AS) (e w : Int32) : Rs := match rn (aG a).length e with
  | none => rfA (-2) a
  | some e => match rn 3 w with
    | none => rfA (-2) a
    | some w => (ofV (aG a) e w, a)
def dgN (G : Gr) (v w : Nat) : Nat := G.countP (fun q => decide ((if w = 0 then q.1 else q.2.2) = v))
def degA (a : AS) (v w : Int32) : Rs := match rn 10 v with
  | none => rfA (-2) a
  | some v => match rn 2 w with
    | none => rfA (-2) a
    | some w => (nI (dgN (aG a) v w), a)
def typA (a : AS) (c : Int32) : Rs := match rn 128 c with
  | none => rfA (-2) a
  | some c => if 80 ≤ (aT a).length then rfA (-4) a else (nI ((aT a).length + 1), sT a (aT a ++ [c]))
def cleA (a : AS) : Rs := (nI (aT a).length, sT a [])
theorem CI1.setG {τ τ' : Ty} {a : AS} {G : Gr} (h : CI1 τ a) (ho : Off [1, 2, 3, 4] τ τ') (hG : EdIs τ' G) : CI1 τ' (sG a G) := by
  obtain ⟨h1, h3, h4, h5, h6, h7, h8⟩ := h
  refine ⟨hG, h3.off ho (by decide), ?_, h5.offW ho.w (fun k g1 g2 hin => ?_), h6.eq ho.2, ?_, ?_⟩
  · unfold TxIs at *
    rw [(ho.1 0 (by decide)).2.2, (ho.1 20 (by decide)).1]
    exact h4
  · simp at hin
    omega
  · unfold Sd0 at *
    rw [(ho.1 49 (by decide)).2.2]
    exact h7
  · unfold CtIs at *
    rw [(ho.1 0 (by decide)).2.2]
    exact h8
theorem CIs.f49 {τ : Ty} {a a' : AS} {j : Nat} {x : Int32} (h : CIs τ a) (hj : j = 2 ∨ j = 3) (ha : a' = sC a x ∧ j = 2 ∨ a' = sLo a x ∧ j = 3) : CIs (sF τ 49 j x) a' := by
  obtain ⟨h1, h2, h3, h4, h5, h6, h7, h8⟩ := h
  have ho : Off [49] τ (sF τ 49 j x) := (Off.rf _ _).sF (by simp) _ _
  have h5' : XsIs (sF τ 49 j x) (aX a) := h5.offW ho.w (fun k h1 h2 hin => by simp at hin; omega)
  have h1' := h1.offW ho.w (by decide)
  have h2' := h2.offW ho.w (by decide)
  have h3' := h3.offW ho.w (by decide)
  rcases ha with ⟨rfl, rfl⟩ | ⟨rfl, rfl⟩
  · exact ⟨h1', h2', h3', h4, h5', h6, ⟨h7.1, h7.2.1, rfl, h7.2.2.2.1, h7.2.2.2.2⟩, h8⟩
  · exact ⟨h1', h2', h3', h4, h5', h6, ⟨h7.1, h7.2.1, h7.2.2.1, rfl, h7.2.2.2.2⟩, h8⟩
theorem Off.c {ks : List Nat} {τ τ' : Ty} (h : Off ks τ τ') (hs : ∀ k ∈ ks, k < 63) : OffC τ τ' := h.w.c hs
section ClPub
variable {τ : Ty} {Q : Option Value → Ty → Prop} {a : AS}
theorem edge_spec {u l v : Int32} (hC : CIs τ a) (h : ∀ τ', OffC τ τ' → CIs τ' (edgeA a u l v).2 → Q (some (.int (edgeA a u l v).1)) τ') : RT mX10_edge none 0 [some (.ref 0), some (.int u), some (.int l), some (.int v), none, none] [] τ Q := by
  have no : edgeA a u l v = rfA (-2) a → RT mX10_edge none 23 [some (.ref 0), some (.int u), some (.int l), some (.int v), none, none] [] τ Q := by
    intro e
    rw [e] at h
    refine rt_run 2 rfl ?_
    refine rt_cV (ci := 10) mX10_refuse kX10_edge_26 okX10_refuse rfl rfl rfl rfl rfl ?_
    exact refuse_spec hC (Or.inl rfl) (fun τ' hO hC' => rt_iret rfl rfl (h τ' hO hC'))
  refine rt_run 1 rfl ?_
  refine rt_cS mX10_isVertex kX10_edge_1 okX10_isVertex rfl rfl ?_
  refine isVertex_spec (fun hh => ?_) (fun u' hu eu => ?_)
  · refine rt_if_eq rfl (fun _ => no (by unfold edgeA; rw [rn_no (by decide) hh])) (fun hc => absurd rfl hc)
  subst eu
  refine rt_if_eq rfl (fun hc => absurd hc (by decide)) (fun _ => ?_)
  have rl : rn 4 l = none → edgeA a (nI u') l v = rfA (-2) a := fun e => by
    unfold edgeA; rw [rn_so hu (by decide)]; dsimp only; rw [e]
  refine rt_run 1 rfl ?_
  refine rt_if_lt rfl (fun hc => no (rl (rn_out (Or.inl hc)))) (fun hc => ?_)
  refine rt_run 2 rfl ?_
  refine rt_ic_ge rfl (fun hd => no (rl (rn_out (Or.inr hd)))) (fun hd => ?_)
  rcases pk_ix l (n := 4) (by decide) with g | g | ⟨l', hl, el⟩
  · exact absurd g hc
  · exact absurd g hd
  subst el
  refine rt_run 1 rfl ?_
  refine rt_cS mX10_isVertex kX10_edge_17 okX10_isVertex rfl rfl ?_
  refine isVertex_spec (fun hh => ?_) (fun v' hv ev => ?_)
  · refine rt_if_ne rfl (fun hc => absurd rfl hc) (fun _ => no ?_)
    unfold edgeA; rw [rn_so hu (by decide)]; dsimp only; rw [rn_so hl (by decide)]; dsimp only; rw [rn_no (by decide) hh]
  subst ev
  refine rt_if_ne rfl (fun _ => ?_) (fun hc => absurd hc (by decide))
  have eA : edgeA a (nI u') (nI l') (nI v') = if (u', l', v') ∈ aG a then rfA (-3) a else if 30 ≤ (aG a).length then rfA (-4) a else
        (szI (sG a (aG a ++ [(u', l', v')])) - szI a, sC (sG a (aG a ++ [(u', l', v')])) (aC a + (szI (sG a (aG a ++ [(u', l', v')])) - szI a))) := by
    unfold edgeA; rw [rn_so hu (by decide)]; dsimp only; rw [rn_so hl (by decide)]; dsimp only; rw [rn_so hv (by decide)]
  rw [eA] at h
  have hl30 := hC.1.2.2.1
  refine rt_run 5 rfl ?_
  refine rt_cV (ci := 1) mX1_has kX10_edge_37 okX1_has rfl rfl rfl rfl rfl ?_
  refine has_spec hC.1 hu hl hv (fun hn => ?_) (fun hn => ?_)
  · rw [if_neg hn] at h
    refine rt_if_eq rfl (fun _ => ?_) (fun hc => absurd rfl hc)
    refine rt_run 4 rfl ?_
    refine rt_lt (aG a).length 30 rfl (by omega) (by omega) (fun hlt => ?_) (fun hge => ?_) hC.1.1
    · rw [if_neg (by omega)] at h
      refine rt_run 2 rfl ?_
      refine rt_cV (ci := 6) mX6_size kX10_edge_73 okX6_size rfl rfl rfl rfl rfl ?_
      refine size_spec hC ?_
      refine rt_run 6 rfl ?_
      refine rt_cV (ci := 1) mX1_put kX10_edge_85 okX1_put rfl rfl rfl rfl rfl ?_
      refine eput_spec hC.1 hu hl hv hlt (fun τ1 hO1 hG1 => ?_)
      refine rt_run 1 rfl ?_
      refine rt_cV (ci := 10) mX10_graphChanged kX10_edge_89 okX10_graphChanged rfl rfl rfl rfl rfl ?_
      refine graphChanged_spec (hC.one.setG hO1 hG1) (fun τ2 hO2 hC2 => ?_)
      refine rt_run 2 rfl ?_
      refine rt_cV (ci := 6) mX6_size kX10_edge_96 okX6_size rfl rfl rfl rfl rfl ?_
      refine size_spec hC2 ?_
      refine rt_run 11 rfl ?_
      refine rt_iret rfl rfl (h _ (((hO1.c (by decide)).tr (hO2.c (by decide))).tr (((Off.rf [49] _).sF (by simp) _ _).c (by decide))) (hC2.f49 (Or.inl rfl) (Or.inl ⟨?_, rfl⟩)))
      rw [hC2.2.2.2.2.2.2.1.2.2.1]
      rfl
    · rw [if_pos hge] at h
      refine rt_run 2 rfl ?_
      refine rt_cV (ci := 10) mX10_refuse kX10_edge_65 okX10_refuse rfl rfl rfl rfl rfl ?_
      exact refuse_spec hC (Or.inr (Or.inr rfl)) (fun τ' hO hC' => rt_iret rfl rfl (h τ' hO hC'))
  · rw [if_pos hn] at h
    refine rt_if_eq rfl (fun hc => absurd hc (by decide)) (fun _ => ?_)
    refine rt_run 2 rfl ?_
    refine rt_cV (ci := 10) mX10_refuse kX10_edge_46 okX10_refuse rfl rfl rfl rfl rfl ?_
    exact refuse_spec hC (Or.inr (Or.inl rfl)) (fun τ' hO hC' => rt_iret rfl rfl (h τ' hO hC'))
theorem drop_spec {e : Int32} (hC : CIs τ a) (h : ∀ τ', OffC τ τ' → CIs τ' (dropA a e).2 → Q (some (.int (dropA a e).1)) τ') : RT mX10_drop none 0 [some (.ref 0), some (.int e), none, none] [] τ Q := by
  have hl30 := hC.1.2.2.1
  refine rt_run 3 rfl ?_
  refine rt_cV (ci := 1) mX1_isEdge kX10_drop_5 okX1_isEdge rfl rfl rfl rfl rfl ?_
  refine isEdge_spec hC.1 (fun hh => ?_) (fun e' he ee => ?_)
  · refine rt_if_ne rfl (fun hc => absurd rfl hc) (fun _ => ?_)
    refine rt_run 2 rfl ?_
    refine rt_cV (ci := 10) mX10_refuse kX10_drop_14 okX10_refuse rfl rfl rfl rfl rfl ?_
    unfold dropA at h
    rw [rn_out hh] at h
    exact refuse_spec hC (Or.inl rfl) (fun τ' hO hC' => rt_iret rfl rfl (h τ' hO hC'))
  · subst ee
    refine rt_if_ne rfl (fun _ => ?_) (fun hc => absurd hc (by decide))
    unfold dropA at h
    rw [rn_so he (by omega)] at h
    dsimp only at h
    refine rt_run 2 rfl ?_
    refine rt_cV (ci := 6) mX6_size kX10_drop_22 okX6_size rfl rfl rfl rfl rfl ?_
    refine size_spec hC ?_
    refine rt_run 4 rfl ?_
    refine rt_cV (ci := 1) mX1_remove kX10_drop_31 okX1_remove rfl rfl rfl rfl rfl ?_
    refine remove_spec hC.1 he (fun τ1 hO1 hG1 => ?_)
    refine rt_run 1 rfl ?_
    refine rt_cV (ci := 10) mX10_graphChanged kX10_drop_35 okX10_graphChanged rfl rfl rfl rfl rfl ?_
    refine graphChanged_spec (hC.one.setG hO1 hG1) (fun τ2 hO2 hC2 => ?_)
    refine rt_run 3 rfl ?_
    refine rt_cV (ci := 6) mX6_size kX10_drop_43 okX6_size rfl rfl rfl rfl rfl ?_
    refine size_spec hC2 ?_
    refine rt_run 10 rfl ?_
    refine rt_iret rfl rfl (h _ (((hO1.c (by decide)).tr (hO2.c (by decide))).tr (((Off.rf [49] _).sF (by simp) _ _).c (by decide))) (hC2.f49 (Or.inr rfl) (Or.inr ⟨?_, rfl⟩)))
    rw [hC2.2.2.2.2.2.2.1.2.2.2.1]
    rfl
theorem anew_spec (hC : CIs τ a) (h : ∀ τ', OffC τ τ' → CIs τ' (anewA a).2 → Q (some (.int (anewA a).1)) τ') : RT mX10_anew none 0 [some (.ref 0), none] [] τ Q := by
  refine rt_run 9 rfl ?_
  refine rt_cV (ci := 10) mX10_graphChanged kX10_anew_17 okX10_graphChanged rfl rfl rfl rfl rfl ?_
  have hO : Off [1, 2, 3, 4] τ (sF τ 1 3 0) := (Off.rf _ _).sF (by simp) _ _
  refine graphChanged_spec (a := sG a []) (hC.one.setG hO ⟨rfl, fun i q hq => by simp at hq, by simp, fun q hq => by simp at hq⟩) (fun τ2 hO2 hC2 => ?_)
  refine rt_run 1 rfl ?_
  rw [hC.1.1]
  exact rt_iret rfl rfl (h τ2 ((hO.c (by decide)).tr (hO2.c (by decide))) hC2)
theorem of_spec {e w : Int32} (hC : CIs τ a) (h : ∀ τ', OffC τ τ' → CIs τ' (ofA a e w).2 → Q (some (.int (ofA a e w).1)) τ') : RT mX10_of none 0 [some (.ref 0), some (.int e), some (.int w)] [] τ Q := by
  have hl30 := hC.1.2.2.1
  have no : ofA a e w = rfA (-2) a → RT mX10_of none 20 [some (.ref 0), some (.int e), some (.int w)] [] τ Q := by
    intro e
    rw [e] at h
    refine rt_run 2 rfl ?_
    refine rt_cV (ci := 10) mX10_refuse kX10_of_23 okX10_refuse rfl rfl rfl rfl rfl ?_
    exact refuse_spec hC (Or.inl rfl) (fun τ' hO hC' => rt_iret rfl rfl (h τ' hO hC'))
  refine rt_run 3 rfl ?_
  refine rt_cV (ci := 1) mX1_isEdge kX10_of_5 okX1_isEdge rfl rfl rfl rfl rfl ?_
  refine isEdge_spec hC.1 (fun hh => ?_) (fun e' he ee => ?_)
  · exact rt_if_eq rfl (fun _ => no (by unfold ofA; rw [rn_out hh])) (fun hc => absurd rfl hc)
  subst ee
  refine rt_if_eq rfl (fun hc => absurd hc (by decide)) (fun _ => ?_)
  have rl : rn 3 w = none → ofA a (nI e') w = rfA (-2) a := fun e => by
    unfold ofA; rw [rn_so he (by omega)]; dsimp only; rw [e]
  refine rt_run 1 rfl ?_
  refine rt_if_lt rfl (fun hc => no (rl (rn_out (Or.inl hc)))) (fun hc => ?_)
  refine rt_run 2 rfl ?_
  rcases pk_ix w (n := 3) (by decide) with g | g | ⟨w', hw, ew⟩
  · exact absurd g hc
  · refine rt_ic_le rfl (fun hd => ?_) (fun hd => no (rl (rn_out (Or.inr g))))
    exfalso
    rw [Int32.le_iff_toInt_le] at g hd
    have e3 : (nI 3).toInt = 3 := by decide
    have e2 : (2 : Int32).toInt = 2 := by decide
    omega
  subst ew
  have eA : ofA a (nI e') (nI w') = (ofV (aG a) e' w', a) := by
    unfold ofA; rw [rn_so he (by omega)]; dsimp only; rw [rn_so hw (by decide)]
  rw [eA] at h
  have hq : (aG a)[e']? = some (aG a)[e'] := List.getElem?_eq_getElem he
  obtain ⟨g1, g2, g3⟩ := hC.1.2.1 e' _ hq
  refine rt_le w' 2 rfl (by omega) (by omega) (fun _ => ?_) (fun _ => by omega)
  refine rt_run 1 rfl ?_
  have hfin := h τ (OffC.rf _) hC
  unfold ofV at hfin
  rw [hq] at hfin
  dsimp only at hfin
  refine rt_if_ne rfl (fun hw0 => ?_) (fun hw0 => ?_)
  · have : w' ≠ 0 := fun e => hw0 (by rw [e]; rfl)
    rw [if_neg this] at hfin
    refine rt_run 2 rfl ?_
    refine rt_ne w' 1 rfl (by omega) (by omega) (fun hw1 => ?_) (fun hw1 => ?_)
    · rw [if_neg hw1] at hfin
      refine rt_run 4 rfl ?_
      refine rt_ld e' rfl (n := 30) rfl (by omega) ?_
      rw [g3]
      exact rt_iret rfl rfl hfin
    · rw [if_pos hw1] at hfin
      refine rt_run 4 rfl ?_
      refine rt_ld e' rfl (n := 30) rfl (by omega) ?_
      rw [g2]
      refine rt_run 1 rfl ?_
      exact rt_iret rfl rfl hfin
  · have : w' = 0 := by
      by_cases hz : w' = 0
      · exact hz
      · exact absurd hw0 (nI_ne0 (by omega) (by omega))
    rw [if_pos this] at hfin
    refine rt_run 4 rfl ?_
    refine rt_ld e' rfl (n := 30) rfl (by omega) ?_
    rw [g1]
    exact rt_iret rfl rfl hfin
end ClPub
end
section
/-! what a text tells, as an expression; the class's degree, type, clear, reads -/
def up (n : Nat) (x : Int32) : Prop := ∀ i, bt x i = true → i ≤ n
theorem up_or {n : Nat} {x y : Int32} (hx : up n x) (hy : up n y) : up n (x ||| y) := fun i h => by
  rw [b_or, Bool.or_eq_true] at h
  exact h.elim (hx i) (hy i)
theorem up_and {n : Nat} {x : Int32} (y : Int32) (hx : up n x) : up n (x &&& y) := fun i h => by
  rw [b_and, Bool.and_eq_true] at h
  exact hx i h.1
theorem up_0 (n : Nat) : up n 0 := fun i h => by rw [b_0] at h; cases h
theorem b_lt {x : Int32} {i : Nat} (h : bt x i = true) : i < 32 := by
  by_cases hi : i < 32
  · exact hi
  · rw [b_big (by omega)] at h; cases h
theorem up_1 (n : Nat) : up n 1 := fun i h => by
  rw [b_one (b_lt h)] at h
  have := of_decide_eq_true h
  omega
theorem up_mono {n m : Nat} {x : Int32} (h : up n x) (hm : n ≤ m) : up m x := fun i hi => by have := h i hi; omega
theorem up_bit {p n : Nat} (hp : p < 32) (h : p ≤ n) : up n (1 <<< (nI p &&& 31)) := fun i hi => by
  rw [b_bit hp (b_lt hi)] at hi
  have := of_decide_eq_true hi
  omega
def PWf : PSt → Prop
  | (rf, rl, cf, cl, pf, pl, sg, d, fol, be, n) => n ≤ 24 ∧ (∀ j, j ≤ d → up n (rf j) ∧ up n (rl j) ∧ up n (cf j) ∧ up n (cl j)) ∧ (sg = 2 → up n pf ∧ up n pl) ∧ (∀ p i, bt (fol p) i = true → 1 ≤ p ∧ p ≤ n ∧ 1 ≤ i ∧ i ≤ n) ∧ ∀ s i, bt (be s) i = true → 1 ≤ i ∧ i ≤ n
theorem lnk_wf {fol : Nat → Int32} {n : Nat} {a b : Int32} (hf : ∀ p i, bt (fol p) i = true → 1 ≤ p ∧ p ≤ n ∧ 1 ≤ i ∧ i ≤ n) (hb : up n b) : ∀ p i, bt (lnkF fol n a b p) i = true → 1 ≤ p ∧ p ≤ n ∧ 1 ≤ i ∧ i ≤ n := by
  intro p i h
  unfold lnkF at h
  split at h
  · rename_i hc
    rw [b_or, Bool.or_eq_true] at h
    rcases h with h | h
    · exact hf p i h
    · have hi := b_lt h
      rw [b_and, Bool.and_eq_true, b_m2 hi] at h
      have h1 := hb i h.1
      have h2 := of_decide_eq_true h.2
      exact ⟨hc.1, hc.2.1, by omega, h1⟩
  · exact hf p i h
theorem upd_up {n d : Nat} {f : Nat → Int32} {x : Int32} (hf : ∀ j, j ≤ d → up n (f j)) (hx : up n x) : ∀ j, j ≤ d → up n (upd f d x j) := by
  intro j hj
  by_cases h : j = d
  · subst h; rw [pk_us]; exact hx
  · rw [pk_un h]; exact hf j hj
theorem PWf.close {S : PSt} (h : PWf S) : PWf (pClose S) := by
  obtain ⟨rf, rl, cf, cl, pf, pl, sg, d, fol, be, n⟩ := S
  obtain ⟨h1, h2, h3, h4, h5⟩ := h
  by_cases hs : sg = 2
  · simp only [pClose, if_pos hs]
    obtain ⟨g1, g2⟩ := h3 hs
    refine ⟨h1, fun j hj => ⟨?_, ?_, (h2 j hj).2.2.1, (h2 j hj).2.2.2⟩, fun _ => ⟨g1, g2⟩, lnk_wf h4 g1, h5⟩
    · refine upd_up (fun j hj => (h2 j hj).1) ?_ j hj
      split
      · exact (h2 d (Nat.le_refl _)).1
      · exact up_or (up_and _ (h2 d (Nat.le_refl _)).1) g1
    · refine upd_up (fun j hj => (h2 j hj).2.1) ?_ j hj
      split
      · exact g2
      · exact up_or (h2 d (Nat.le_refl _)).2.1 (up_and _ g2)
  · simp only [pClose, if_neg hs]
    exact ⟨h1, h2, h3, h4, h5⟩
theorem PWf.closeR {S : PSt} (h : PWf S) : PWf (pCloseR S) := by
  have h := h.close
  unfold pCloseR
  generalize pClose S = S1 at h
  obtain ⟨rf, rl, cf, cl, pf, pl, sg, d, fol, be, n⟩ := S1
  obtain ⟨h1, h2, h3, h4, h5⟩ := h
  have hd := h2 d (Nat.le_refl _)
  refine ⟨h1, fun j hj => ⟨(h2 j hj).1, (h2 j hj).2.1, ?_, ?_⟩, h3, h4, h5⟩
  · exact upd_up (fun j hj => (h2 j hj).2.2.1) (up_or hd.2.2.1 hd.1) j hj
  · exact upd_up (fun j hj => (h2 j hj).2.2.2) (up_or hd.2.2.2 hd.2.1) j hj
theorem PWf.next {b : Nat} {S S' : PSt} (h : PWf S) (ht : tk b S = some S') : PWf S' := by
  unfold tk at ht
  split at ht
  · cases ht; exact h
  split at ht
  · unfold tkOpen at ht
    split at ht
    · cases ht
    · cases ht
      have h := h.close
      have hd := (pClose_depth S).1
      rw [← hd]
      generalize pClose S = S1 at h
      obtain ⟨rf, rl, cf, cl, pf, pl, sg, d, fol, be, n⟩ := S1
      obtain ⟨h1, h2, h3, h4, h5⟩ := h
      refine ⟨h1, fun j hj => ?_, (fun e => by cases e), h4, h5⟩
      by_cases hj2 : j = d + 1
      · subst hj2
        refine ⟨?_, ?_, ?_, ?_⟩
        · show up n (upd rf (d + 1) 1 (d + 1)); rw [pk_us]; exact up_1 n
        · show up n (upd rl (d + 1) 1 (d + 1)); rw [pk_us]; exact up_1 n
        · show up n (upd cf (d + 1) 0 (d + 1)); rw [pk_us]; exact up_0 n
        · show up n (upd cl (d + 1) 0 (d + 1)); rw [pk_us]; exact up_0 n
      · have hj3 : j ≤ d := by
          have : j ≤ d + 1 := hj
          omega
        have hh := h2 j hj3
        refine ⟨?_, ?_, ?_, ?_⟩
        · show up n (upd rf (d + 1) 1 j); rw [pk_un hj2]; exact hh.1
        · show up n (upd rl (d + 1) 1 j); rw [pk_un hj2]; exact hh.2.1
        · show up n (upd cf (d + 1) 0 j); rw [pk_un hj2]; exact hh.2.2.1
        · show up n (upd cl (d + 1) 0 j); rw [pk_un hj2]; exact hh.2.2.2
  split at ht
  · unfold tkClose at ht
    split at ht
    · cases ht
    · have h := h.closeR
      generalize pCloseR S = S1 at h ht
      obtain ⟨rf, rl, cf, cl, pf, pl, sg, d, fol, be, n⟩ := S1
      obtain ⟨h1, h2, h3, h4, h5⟩ := h
      cases ht
      exact ⟨h1, fun j hj => h2 j (by omega), fun _ => ⟨(h2 d (Nat.le_refl _)).2.2.1, (h2 d (Nat.le_refl _)).2.2.2⟩, h4, h5⟩
  split at ht
  · unfold tkTurn at ht
    split at ht
    · cases ht
      have h := h.closeR
      generalize pCloseR S = S1 at h
      obtain ⟨rf, rl, cf, cl, pf, pl, sg, d, fol, be, n⟩ := S1
      obtain ⟨h1, h2, h3, h4, h5⟩ := h
      exact ⟨h1, fun j hj => ⟨upd_up (fun j hj => (h2 j hj).1) (up_1 n) j hj, upd_up (fun j hj => (h2 j hj).2.1) (up_1 n) j hj, (h2 j hj).2.2.1, (h2 j hj).2.2.2⟩, (fun e => by cases e), h4, h5⟩
    · cases ht
  split at ht
  · unfold tkRep at ht
    split at ht
    · rename_i hs
      obtain ⟨rf, rl, cf, cl, pf, pl, sg, d, fol, be, n⟩ := S
      obtain ⟨h1, h2, h3, h4, h5⟩ := h
      obtain ⟨g1, g2⟩ := h3 hs
      cases ht
      refine ⟨h1, h2, fun _ => ⟨?_, ?_⟩, ?_, h5⟩
      · split
        · exact g1
        · exact up_or g1 (up_1 n)
      · split
        · exact g2
        · exact up_or g2 (up_1 n)
      · split
        · exact h4
        · exact lnk_wf h4 g1
    · cases ht
  · unfold tkPlace at ht
    split at ht
    · cases ht
    · rename_i hc
      have hn := (pClose_depth S).2.1
      have h := h.close
      rw [← hn] at hc
      generalize pClose S = S1 at h ht hc
      obtain ⟨rf, rl, cf, cl, pf, pl, sg, d, fol, be, n⟩ := S1
      obtain ⟨h1, h2, h3, h4, h5⟩ := h
      have hc : ¬ (sgnI b = 0 ∨ 24 ≤ n) := hc
      have hlt : n < 24 := by
        by_cases g : n < 24
        · exact g
        · exact absurd (Or.inr (by omega)) hc
      cases ht
      refine ⟨by omega, fun j hj => ?_, fun _ => ⟨up_bit (by omega) (Nat.le_refl _), up_bit (by omega) (Nat.le_refl _)⟩, fun p i hp => ?_, fun s i hs => ?_⟩
      · obtain ⟨q1, q2, q3, q4⟩ := h2 j hj
        exact ⟨up_mono q1 (by omega), up_mono q2 (by omega), up_mono q3 (by omega), up_mono q4 (by omega)⟩
      · have := h4 p i hp
        omega
      · dsimp only at hs
        split at hs
        · rw [b_or, Bool.or_eq_true] at hs
          rcases hs with hs | hs
          · have := h5 s i hs; omega
          · rw [b_bit (by omega) (b_lt hs)] at hs
            have := of_decide_eq_true hs
            omega
        · have := h5 s i hs; omega
theorem pS0_wf : PWf pS0 := ⟨by omega, fun j _ => ⟨up_1 _, up_1 _, up_0 _, up_0 _⟩, (fun e => by cases e), (fun p i h => by rw [b_0] at h; cases h), (fun s i h => by rw [b_0] at h; cases h)⟩
/-- the expression of a state that has been closed at its end -/
def drA : PSt → AE
  | (_, _, cf, cl, _, _, _, _, fol, be, n) => (fun p i => bt (if p = 0 then cf 0 &&& -2 else fol p) i, fun s i => bt (be s) i, fun i => bt (cl 0) i, n)
theorem drA_wf {S : PSt} (h : PWf S) : AEwf (drA S) := by
  obtain ⟨rf, rl, cf, cl, pf, pl, sg, d, fol, be, n⟩ := S
  obtain ⟨h1, h2, h3, h4, h5⟩ := h
  have h0 := h2 0 (Nat.zero_le _)
  refine ⟨h1, fun p i hp => ?_, fun s i hs => h5 s i hs, fun i hi => h0.2.2.2 i hi⟩
  have hr : bt (if p = 0 then cf 0 &&& -2 else fol p) i = true := hp
  clear hp
  split at hr
  · rename_i e
    subst e
    have hi := b_lt hr
    rw [b_and, Bool.and_eq_true, b_m2 hi] at hr
    have g1 := h0.2.2.1 i hr.1
    have g2 := of_decide_eq_true hr.2
    exact ⟨Nat.zero_le _, by omega, g1⟩
  · have := h4 p i hr
    exact ⟨this.2.1, this.2.2.1, this.2.2.2⟩
/-- the place of the fault, or what the text tells -/
def rdL : List Nat → Nat → PSt → Nat ⊕ AE
  | [], i, S => if qStage S = 2 ∧ qDepth S = 0 then .inr (drA (pCloseR S)) else .inl i
  | b :: T, i, S => match tk b S with
    | none => .inl i
    | some S' => rdL T (i + 1) S'
def rdT (T : List Nat) : Nat ⊕ AE := rdL T 0 pS0
theorem rdL_drop {T : List Nat} {i : Nat} {S : PSt} (hi : i ≤ T.length) (h : psN (fun j => T.getD j 0) i = some S) : rdT T = rdL (T.drop i) i S ∧ PWf S := by
  induction i generalizing S with
  | zero => cases h; exact ⟨rfl, pS0_wf⟩
  | succ i ih =>
    have h : (psN (fun j => T.getD j 0) i).bind (tk (T.getD i 0)) = some S := h
    obtain ⟨S1, e1, e2⟩ := Option.bind_eq_some_iff.mp h
    obtain ⟨g1, g2⟩ := ih (by omega) e1
    have e3 : T.getD i 0 = T[i] := by
      rw [List.getD_eq_getElem?_getD, List.getElem?_eq_getElem (by omega)]; rfl
    rw [e3] at e2
    refine ⟨?_, g2.next e2⟩
    rw [g1, List.drop_eq_getElem_cons (show i < T.length by omega)]
    conv => lhs; unfold rdL
    rw [e2]
def sX (a : AS) (x : Nat) (A : AE) : AS := (a.1, a.2.1, fun y => if y = x then some A else aX a y, a.2.2.2)
def reaA (a : AS) (x : Int32) : Rs := match rn 4 x with
  | none => rfA (-2) a
  | some x => match rdT (aT a) with
    | .inl i => (-10 - nI i, a)
    | .inr A => (nI A.2.2.2, sX a x A)
theorem le_no {n : Nat} {x : Int32} (hn : n + 1 < 2 ^ 31) (g : nI (n + 1) ≤ x) : ¬ x ≤ nI n := by
  intro hd
  rw [Int32.le_iff_toInt_le] at g hd
  rw [nI_toInt hn] at g
  rw [nI_toInt (show n < 2 ^ 31 by omega)] at hd
  omega
section ClReads
variable {τ : Ty} {Q : Option Value → Ty → Prop} {a : AS}
theorem degree_spec {v w : Int32} (hC : CIs τ a) (h : ∀ τ', OffC τ τ' → CIs τ' (degA a v w).2 → Q (some (.int (degA a v w).1)) τ') : RT mX10_degree none 0 [some (.ref 0), some (.int v), some (.int w), none, none, none] [] τ Q := by
  have hl30 := hC.1.2.2.1
  have no : degA a v w = rfA (-2) a → RT mX10_degree none 16 [some (.ref 0), some (.int v), some (.int w), none, none, none] [] τ Q := by
    intro e
    rw [e] at h
    refine rt_run 2 rfl ?_
    refine rt_cV (ci := 10) mX10_refuse kX10_degree_19 okX10_refuse rfl rfl rfl rfl rfl ?_
    exact refuse_spec hC (Or.inl rfl) (fun τ' hO hC' => rt_iret rfl rfl (h τ' hO hC'))
  refine rt_run 1 rfl ?_
  refine rt_cS mX10_isVertex kX10_degree_1 okX10_isVertex rfl rfl ?_
  refine isVertex_spec (fun hh => ?_) (fun v' hv ev => ?_)
  · exact rt_if_eq rfl (fun _ => no (by unfold degA; rw [rn_no (by decide) hh])) (fun hc => absurd rfl hc)
  subst ev
  refine rt_if_eq rfl (fun hc => absurd hc (by decide)) (fun _ => ?_)
  have rl : rn 2 w = none → degA a (nI v') w = rfA (-2) a := fun e => by
    unfold degA; rw [rn_so hv (by decide)]; dsimp only; rw [e]
  refine rt_run 1 rfl ?_
  refine rt_if_lt rfl (fun hc => no (rl (rn_out (Or.inl hc)))) (fun hc => ?_)
  refine rt_run 2 rfl ?_
  rcases pk_ix w (n := 2) (by decide) with g | g | ⟨w', hw, ew⟩
  · exact absurd g hc
  · exact rt_ic_le rfl (fun hd => absurd hd (le_no (n := 1) (by decide) g)) (fun hd => no (rl (rn_out (Or.inr g))))
  subst ew
  have eA : degA a (nI v') (nI w') = (nI (dgN (aG a) v' w'), a) := by
    unfold degA; rw [rn_so hv (by omega)]; dsimp only; rw [rn_so hw (by decide)]
  rw [eA] at h
  refine rt_le w' 1 rfl (by omega) (by omega) (fun _ => ?_) (fun _ => by omega)
  have loop : ∀ ks, aI ks = some 30 → (∀ i q, (aG a)[i]? = some q → gI τ ks i = nI (if w' = 0 then q.1 else q.2.2)) → ∀ d i, i + d = (aG a).length → RT mX10_degree none 51 [some (.ref 0), some (.int (nI v')), some (.int (nI w')), some (.ref ks), some (.int (nI (dgN ((aG a).take i) v' w'))), some (.int (nI i))] [] τ Q := by
    intro ks hks hrow d
    induction d with
    | zero =>
      intro i hi
      refine rt_run 4 rfl ?_
      refine rt_ge i (aG a).length rfl (by omega) (by omega) (fun _ => ?_) (fun _ => by omega) rfl hC.1.1
      refine rt_run 1 rfl ?_
      rw [List.take_of_length_le (by omega)]
      exact rt_iret rfl rfl (h τ (OffC.rf _) hC)
    | succ d ih =>
      intro i hi
      refine rt_run 4 rfl ?_
      refine rt_ge i (aG a).length rfl (by omega) (by omega) (fun _ => by omega) (fun hlt => ?_) rfl hC.1.1
      have hq : (aG a)[i]? = some (aG a)[i] := List.getElem?_eq_getElem hlt
      have h10 := hC.1.2.2.2 _ (List.getElem_mem hlt)
      have hih := ih (i + 1) (by omega)
      have etake : dgN ((aG a).take (i + 1)) v' w' = dgN ((aG a).take i) v' w' + (if (if w' = 0 then (aG a)[i].1 else (aG a)[i].2.2) = v' then 1 else 0) := by
        unfold dgN
        rw [List.take_add_one, hq, List.countP_append]
        show _ + List.countP _ [(aG a)[i]] = _
        rw [List.countP_singleton]
        simp only [decide_eq_true_eq]
      rw [etake, nI_succ i] at hih
      refine rt_run 2 rfl ?_
      refine rt_ld i rfl hks (by omega) ?_
      rw [hrow i _ hq]
      refine rt_run 1 rfl ?_
      refine rt_ne (if w' = 0 then (aG a)[i].1 else (aG a)[i].2.2) v' rfl (by split <;> omega) (by omega) (fun hne => ?_) (fun heq => ?_)
      · rw [if_neg hne, Nat.add_zero] at hih
        refine rt_run 2 rfl ?_
        exact hih
      · rw [if_pos heq, nI_succ] at hih
        refine rt_run 3 rfl ?_
        exact hih
  refine rt_run 1 rfl ?_
  refine rt_if_ne rfl (fun hw0 => ?_) (fun hw0 => ?_)
  · have hne : w' ≠ 0 := fun e => hw0 (by rw [e]; rfl)
    refine rt_run 8 rfl ?_
    exact loop 4 rfl (fun i q hq => by rw [if_neg hne]; exact (hC.1.2.1 i q hq).2.2) (aG a).length 0 (by omega)
  · have heq : w' = 0 := by
      by_cases hz : w' = 0
      · exact hz
      · exact absurd hw0 (nI_ne0 (by omega) (by omega))
    refine rt_run 9 rfl ?_
    exact loop 2 rfl (fun i q hq => by rw [if_pos heq]; exact (hC.1.2.1 i q hq).1) (aG a).length 0 (by omega)
theorem CIs.tx {τ τ' : Ty} {a : AS} {T : List Nat} (h : CIs τ a) (ho : Off [0, 20] τ τ') (hT : TxIs τ' T) (hf : ∀ j, 13 ≤ j → gF τ' 0 j = gF τ 0 j) : CIs τ' (sT a T) := by
  obtain ⟨h1, h2, h3, h4, h5, h6, h7, h8⟩ := h
  refine ⟨h1.offW ho.w (by decide), h2.offW ho.w (by decide), h3.offW ho.w (by decide), hT, h5.offW ho.w (fun k g1 g2 hin => by simp at hin; omega), h6.eq ho.2, ?_, ?_⟩
  · unfold SdIs at *
    rw [(ho.1 49 (by decide)).2.2, (ho.1 50 (by decide)).1]
    exact h7
  · unfold CtIs at *
    rw [hf 13 (by decide), hf 14 (by decide), hf 15 (by decide)]
    exact h8
theorem type_spec {c : Int32} (hC : CIs τ a) (h : ∀ τ', OffC τ τ' → CIs τ' (typA a c).2 → Q (some (.int (typA a c).1)) τ') : RT mX10_type none 0 [some (.ref 0), some (.int c)] [] τ Q := by
  obtain ⟨t1, t2, t3⟩ := hC.2.2.2.1
  have no : typA a c = rfA (-2) a → RT mX10_type none 10 [some (.ref 0), some (.int c)] [] τ Q := by
    intro e
    rw [e] at h
    refine rt_run 2 rfl ?_
    refine rt_cV (ci := 10) mX10_refuse kX10_type_13 okX10_refuse rfl rfl rfl rfl rfl ?_
    exact refuse_spec hC (Or.inl rfl) (fun τ' hO hC' => rt_iret rfl rfl (h τ' hO hC'))
  have rl : rn 128 c = none → typA a c = rfA (-2) a := fun e => by unfold typA; rw [e]
  refine rt_run 1 rfl ?_
  refine rt_if_lt rfl (fun hc => no (rl (rn_out (Or.inl hc)))) (fun hc => ?_)
  refine rt_run 2 rfl ?_
  rcases pk_ix c (n := 128) (by decide) with g | g | ⟨c', hc', ec⟩
  · exact absurd g hc
  · exact rt_ic_le rfl (fun hd => absurd hd (le_no (n := 127) (by decide) g)) (fun hd => no (rl (rn_out (Or.inr g))))
  subst ec
  have eA : typA a (nI c') = if 80 ≤ (aT a).length then rfA (-4) a else (nI ((aT a).length + 1), sT a (aT a ++ [c'])) := by
    unfold typA; rw [rn_so hc' (by decide)]
  rw [eA] at h
  refine rt_le c' 127 rfl (by omega) (by omega) (fun _ => ?_) (fun _ => by omega)
  refine rt_run 3 rfl ?_
  refine rt_lt (aT a).length 80 rfl (by omega) (by omega) (fun hlt => ?_) (fun hge => ?_) t1
  · rw [if_neg (by omega)] at h
    refine rt_run 5 rfl ?_
    refine rt_st (aT a).length rfl (n := 80) rfl (by omega) ?_ t1
    refine rt_run 8 rfl ?_
    have e1 : gF (sI τ 20 (aT a).length (nI c')) 0 5 + 1 = nI ((aT a).length + 1) := by
      show gF τ 0 5 + 1 = _
      rw [t1, ← nI_succ]
    have hO : Off [0, 20] τ (sF (sI τ 20 (aT a).length (nI c')) 0 5 (gF (sI τ 20 (aT a).length (nI c')) 0 5 + 1)) := ((Off.rf _ _).sI (by simp) _ _).sF (by simp) _ _
    have e2 : gF (sF (sI τ 20 (aT a).length (nI c')) 0 5 (gF (sI τ 20 (aT a).length (nI c')) 0 5 + 1)) 0 5 = nI ((aT a).length + 1) := by
      rw [gF_sF, if_pos rfl, pk_us, e1]
    rw [e2]
    refine rt_iret rfl rfl (h _ (hO.c (by decide)) (hC.tx hO ⟨by rw [e2, List.length_append]; rfl, by rw [List.length_append]; exact hlt, fun i b hb => ?_⟩ (fun j hj => ?_)))
    · show b < 128 ∧ upd (gI τ 20) (aT a).length (nI c') i = nI b
      rcases getApp hb with ⟨hi, hb⟩ | ⟨rfl, rfl⟩
      · rw [pk_un (by omega)]; exact t3 i b hb
      · rw [pk_us]; exact ⟨hc', rfl⟩
    · show upd (gF τ 0) 5 _ j = _
      rw [pk_un (by omega)]
  · rw [if_pos hge] at h
    refine rt_run 2 rfl ?_
    refine rt_cV (ci := 10) mX10_refuse kX10_type_29 okX10_refuse rfl rfl rfl rfl rfl ?_
    exact refuse_spec hC (Or.inr (Or.inr rfl)) (fun τ' hO hC' => rt_iret rfl rfl (h τ' hO hC'))
theorem clear_spec (hC : CIs τ a) (h : ∀ τ', OffC τ τ' → CIs τ' (cleA a).2 → Q (some (.int (cleA a).1)) τ') : RT mX10_clear none 0 [some (.ref 0), none] [] τ Q := by
  refine rt_run 7 rfl ?_
  rw [hC.2.2.2.1.1]
  have hO : Off [0, 20] τ (sF τ 0 5 0) := (Off.rf _ _).sF (by simp) _ _
  refine rt_iret rfl rfl (h _ (hO.c (by decide)) (hC.tx hO ⟨rfl, by simp, fun i b hb => by simp at hb⟩ (fun j hj => ?_)))
  show upd (gF τ 0) 5 _ j = _
  rw [pk_un (by omega)]
theorem reads_spec {x : Int32} (hC : CIs τ a) (h : ∀ τ', OffC τ τ' → CIs τ' (reaA a x).2 → Q (some (.int (reaA a x).1)) τ') : RT mX10_reads none 0 [some (.ref 0), some (.int x), none] [] τ Q := by
  obtain ⟨t1, t2, t3⟩ := hC.2.2.2.1
  refine rt_run 1 rfl ?_
  refine rt_cS mX10_isExpression kX10_reads_1 okX10_isExpression rfl rfl ?_
  refine isExpr_spec (fun hh => ?_) (fun x' hx ex => ?_)
  · refine rt_if_ne rfl (fun hc => absurd rfl hc) (fun _ => ?_)
    refine rt_run 2 rfl ?_
    refine rt_cV (ci := 10) mX10_refuse kX10_reads_10 okX10_refuse rfl rfl rfl rfl rfl ?_
    unfold reaA at h
    rw [rn_no (by decide) hh] at h
    exact refuse_spec hC (Or.inl rfl) (fun τ' hO hC' => rt_iret rfl rfl (h τ' hO hC'))
  subst ex
  refine rt_if_ne rfl (fun _ => ?_) (fun hc => absurd hc (by decide))
  have eA : reaA a (nI x') = (match rdT (aT a) with
    | .inl i => (-10 - nI i, a)
    | .inr A => (nI A.2.2.2, sX a x' A)) := by
    unfold reaA; rw [rn_so hx (by decide)]
  rw [eA] at h
  have fault : ∀ τ' i, Off kR τ τ' → i ≤ 80 → rdT (aT a) = .inl i → RT mX10_reads none 29 [some (.ref 0), some (.int (nI x')), none] [.int (nI i)] τ' Q := by
    intro τ' i hO hi e
    rw [e] at h
    refine rt_run 3 rfl ?_
    refine rt_ic_eq rfl (fun hc => absurd hc (neg1 (by omega))) (fun _ => ?_)
    refine rt_run 3 rfl ?_
    exact rt_iret rfl rfl (h τ' (hO.c (by decide)) (hC.scr (hO.w.up (by decide)) (hC.2.2.2.2.2.1.eq hO.2)))
  refine rt_run 6 rfl ?_
  rw [t1]
  refine rt_cV (ci := 4) mX4_faultOf kX10_reads_26 okX4_faultOf rfl rfl rfl rfl rfl ?_
  refine faultOf_spec (t := fun j => (aT a).getD j 0) t2 (fun i hi => ?_) (fun i S hi hS htk τ' hO => ?_) (fun S hS hst τ' hO => ?_) (fun S hS hst hdp τ' hO hD => ?_)
  · have e : (aT a).getD i 0 = (aT a)[i] := by rw [List.getD_eq_getElem?_getD, List.getElem?_eq_getElem hi]; rfl
    rw [e]
    exact t3 i _ (List.getElem?_eq_getElem hi)
  · refine fault τ' i hO (by omega) ?_
    obtain ⟨g1, g2⟩ := rdL_drop (by omega) hS
    have e : (aT a).getD i 0 = (aT a)[i] := by rw [List.getD_eq_getElem?_getD, List.getElem?_eq_getElem hi]; rfl
    rw [e] at htk
    rw [g1, List.drop_eq_getElem_cons hi]
    unfold rdL
    rw [htk]
  · refine fault τ' _ hO t2 ?_
    obtain ⟨g1, g2⟩ := rdL_drop (Nat.le_refl _) hS
    rw [g1, List.drop_length]
    unfold rdL
    rw [if_neg]
    rintro ⟨q1, q2⟩
    exact hst.elim (fun e => e q1) (fun e => e q2)
  · obtain ⟨g1, g2⟩ := rdL_drop (Nat.le_refl _) hS
    rw [List.drop_length] at g1
    unfold rdL at g1
    rw [if_pos ⟨hst, hdp⟩] at g1
    rw [g1] at h
    have hwf := g2.closeR
    generalize pCloseR S = S1 at h hD hwf
    have hAwf := drA_wf hwf
    dsimp only at h
    have hC1 : CIs τ' a := hC.scr (hO.w.up (by decide)) (hC.2.2.2.2.2.1.eq hO.2)
    obtain ⟨f0, f1, f2, f3, f4, a0, a1, h38⟩ := isE_f (isE_x hx)
    refine rt_run 3 rfl ?_
    refine rt_ic_eq rfl (fun _ => ?_) (fun hc => absurd rfl hc)
    refine rt_run 3 rfl ?_
    refine rt_aald rfl hx ?_
    refine rt_run 3 rfl ?_
    refine rt_cV (ci := 2) mX2_become kX10_reads_53 okX2_become (isE_s (isE_x hx)) rfl rfl rfl rfl ?_
    refine become_spec (isE_x hx) (Or.inl rfl) (by omega) (fun f g hf hg => ?_)
    have hO2 : Off [51 + 3 * x', 51 + 3 * x' + 1, 51 + 3 * x' + 2] τ' (sF (sF (sF (sA (sA τ' (51 + 3 * x' + 1) f) (51 + 3 * x' + 2) g) (51 + 3 * x') 2 (gF τ' 23 2)) (51 + 3 * x') 3 (gF τ' 23 3)) (51 + 3 * x') 4 1) := (((((Off.rf _ _).sA (by simp) _).sA (by simp) _).sF (by simp) _ _).sF (by simp) _ _).sF (by simp) _ _
    have hE2 : gF (sF (sF (sF (sA (sA τ' (51 + 3 * x' + 1) f) (51 + 3 * x' + 2) g) (51 + 3 * x') 2 (gF τ' 23 2)) (51 + 3 * x') 3 (gF τ' 23 3)) (51 + 3 * x') 4 1) (51 + 3 * x') 4 = 1 ∧ ExIs (sF (sF (sF (sA (sA τ' (51 + 3 * x' + 1) f) (51 + 3 * x' + 2) g) (51 + 3 * x') 2 (gF τ' 23 2)) (51 + 3 * x') 3 (gF τ' 23 3)) (51 + 3 * x') 4 1) (51 + 3 * x') (drA S1) := by
      have eI1 : gI (sF (sF (sF (sA (sA τ' (51 + 3 * x' + 1) f) (51 + 3 * x' + 2) g) (51 + 3 * x') 2 (gF τ' 23 2)) (51 + 3 * x') 3 (gF τ' 23 3)) (51 + 3 * x') 4 1) (51 + 3 * x' + 1) = f := by
        rw [gI_sF, gI_sF, gI_sF, gI_sA, if_neg (by omega), gI_sA, if_pos rfl]
      have eI2 : gI (sF (sF (sF (sA (sA τ' (51 + 3 * x' + 1) f) (51 + 3 * x' + 2) g) (51 + 3 * x') 2 (gF τ' 23 2)) (51 + 3 * x') 3 (gF τ' 23 3)) (51 + 3 * x') 4 1) (51 + 3 * x' + 2) = g := by
        rw [gI_sF, gI_sF, gI_sF, gI_sA, if_pos rfl]
      have eF4 : gF (sF (sF (sF (sA (sA τ' (51 + 3 * x' + 1) f) (51 + 3 * x' + 2) g) (51 + 3 * x') 2 (gF τ' 23 2)) (51 + 3 * x') 3 (gF τ' 23 3)) (51 + 3 * x') 4 1) (51 + 3 * x') 4 = 1 := by
        rw [gF_sF, if_pos rfl, pk_us]
      have eF3 : gF (sF (sF (sF (sA (sA τ' (51 + 3 * x' + 1) f) (51 + 3 * x' + 2) g) (51 + 3 * x') 2 (gF τ' 23 2)) (51 + 3 * x') 3 (gF τ' 23 3)) (51 + 3 * x') 4 1) (51 + 3 * x') 3 = gF τ' 23 3 := by
        rw [gF_sF, if_pos rfl, pk_un (by decide), gF_sF, if_pos rfl, pk_us]
      have eF2 : gF (sF (sF (sF (sA (sA τ' (51 + 3 * x' + 1) f) (51 + 3 * x' + 2) g) (51 + 3 * x') 2 (gF τ' 23 2)) (51 + 3 * x') 3 (gF τ' 23 3)) (51 + 3 * x') 4 1) (51 + 3 * x') 2 = gF τ' 23 2 := by
        rw [gF_sF, if_pos rfl, pk_un (by decide), gF_sF, if_pos rfl, pk_un (by decide), gF_sF, if_pos rfl, pk_us]
      obtain ⟨rf, rl, cf, cl, pf, pl, sg, d, fol, be, n⟩ := S1
      obtain ⟨d1, d2, d3, d4, d5⟩ := hD
      refine ⟨eF4, by rw [eF3]; exact d1, fun p hp i hi => ?_, fun s hs i hi => ?_, fun i hi => ?_, hAwf⟩
      · rw [eI1, hf p hp, show gI τ' (23 + 1) p = _ from d3 p hp]
        rfl
      · rw [eI2, hg s hs, show gI τ' (23 + 2) s = _ from d4 s hs]
        rfl
      · rw [eF2, d5]
        rfl
    generalize (sF (sF (sF (sA (sA τ' (51 + 3 * x' + 1) f) (51 + 3 * x' + 2) g) (51 + 3 * x') 2 (gF τ' 23 2)) (51 + 3 * x') 3 (gF τ' 23 3)) (51 + 3 * x') 4 1) = τ2 at hO2 hE2
    have hks : ∀ k, k < 51 ∨ 63 ≤ k → k ∉ [51 + 3 * x', 51 + 3 * x' + 1, 51 + 3 * x' + 2] := by
      intro k hk hin
      simp at hin
      omega
    have hC2 : CI1 τ2 (sX a x' (drA S1)) := by
      obtain ⟨c1, c3, c4, c5, c6, c7, c8⟩ := hC1.one
      refine ⟨c1.offW hO2.w ⟨hks _ (by omega), hks _ (by omega), hks _ (by omega), hks _ (by omega)⟩, c3.offW hO2.w ⟨hks _ (by omega), hks _ (by omega), hks _ (by omega), hks _ (by omega), hks _ (by omega)⟩, ?_, fun y hy => ?_, c6.eq hO2.2, ?_, ?_⟩
      · unfold TxIs at *
        rw [(hO2.1 0 (hks _ (by omega))).2.2, (hO2.1 20 (hks _ (by omega))).1]
        exact c4
      · show match (if y = x' then some (drA S1) else aX a y) with
          | none => _
          | some A => _
        by_cases hyx : y = x'
        · subst hyx
          rw [if_pos rfl]
          exact hE2
        · rw [if_neg hyx]
          have hn : ∀ k, (k = 51 + 3 * y ∨ k = 51 + 3 * y + 1 ∨ k = 51 + 3 * y + 2) → k ∉ [51 + 3 * x', 51 + 3 * x' + 1, 51 + 3 * x' + 2] := by
            intro k hk hin
            simp at hin
            omega
          have h5 := c5 y hy
          have eF := (hO2.1 (51 + 3 * y) (hn _ (Or.inl rfl))).2.2
          cases hA : aX a y with
          | none =>
            rw [hA] at h5
            dsimp only at h5 ⊢
            rw [eF]
            exact h5
          | some A =>
            rw [hA] at h5
            dsimp only at h5 ⊢
            exact ⟨by rw [eF]; exact h5.1, h5.2.off hO2 ⟨hn _ (Or.inl rfl), hn _ (Or.inr (Or.inl rfl)), hn _ (Or.inr (Or.inr rfl))⟩⟩
      · obtain ⟨s1, s2, s3, s4⟩ := c7
        refine ⟨?_, fun y hy => ⟨(s2 y hy).1, ?_⟩, ?_, ?_⟩
        · rw [(hO2.1 49 (hks _ (by omega))).2.2]; exact s1
        · show (if y = x' then some (drA S1) else aX a y).isSome = true
          split
          · rfl
          · exact (s2 y hy).2
        · rw [(hO2.1 49 (hks _ (by omega))).2.2]; exact s3
        · rw [(hO2.1 49 (hks _ (by omega))).2.2]; exact s4
      · unfold CtIs at *
        rw [(hO2.1 0 (hks _ (by omega))).2.2]
        exact c8
    have hS2 : StIs τ2 5 (stL (aG a) none) := hC1.2.1.off hO2 ⟨hks _ (by omega), hks _ (by omega), hks _ (by omega), hks _ (by omega), hks _ (by omega)⟩
    have hOC2 : OffC τ τ2 := (hO.c (by decide)).tr (hO2.c (by intro k hk; simp at hk; omega))
    have fin : ∀ τ3, OffC τ2 τ3 → CIs τ3 (sX a x' (drA S1)) → gF τ3 (51 + 3 * x') 3 = nI (drA S1).2.2.2 → RT mX10_reads none 71 [some (.ref 0), some (.int (nI x')), some (.int (-1))] [] τ3 Q := by
      intro τ3 hO3 hC3 e3
      refine rt_run 3 rfl ?_
      refine rt_aald rfl hx ?_
      refine rt_getI rfl f3 ?_
      rw [e3]
      exact rt_iret rfl rfl (h τ3 (hOC2.tr hO3) hC3)
    have hw := hC2.2.2.2.2.2.1.1
    have hw2 := hC2.2.2.2.2.2.1.2.1
    refine rt_run 4 rfl ?_
    refine rt_ic_ne rfl (fun hc => ?_) (fun hc => ?_)
    · refine fin τ2 (OffC.rf _) (hC2.all hS2 (fun u hu => ?_)) hE2.2.1
      rw [(hO2.1 50 (hks _ (by omega))).1, hC1.2.2.2.2.2.2.1.2.2.2.2 u hu]
      show rowI (aG a) (aX a) (aW a) u = rowI (aG a) (fun y => if y = x' then some (drA S1) else aX a y) (aW a) u
      cases hW : aW a with
      | none => rfl
      | some y =>
        have hyx : y ≠ x' := by
          intro e
          subst e
          refine hc ?_
          rw [hw]
          show wI (aW a) = _
          rw [hW]; rfl
        simp only [rowI, if_neg hyx]
    · refine rt_run 1 rfl ?_
      refine rt_cV (ci := 10) mX10_keepAnswers kX10_reads_68 okX10_keepAnswers rfl rfl rfl rfl rfl ?_
      refine keepAnswers_spec (a := sX a x' (drA S1)) hC2 hS2 (fun τ3 hO3 hC3 => ?_)
      refine fin τ3 (hO3.c (by decide)) hC3 ?_
      rw [(hO3.1 (51 + 3 * x') (by simp; omega)).2.2]
      exact hE2.2.1
end ClReads
end
section
/-! the class's about, accepts, words, beyond -/
theorem XsIs.told {τ : Ty} {X : Nat → Option AE} {x : Nat} (h : XsIs τ X) (hx : x < 4) : (X x = none ∧ gF τ (51 + 3 * x) 4 = 0) ∨ ∃ A, X x = some A ∧ gF τ (51 + 3 * x) 4 = 1 ∧ ExIs τ (51 + 3 * x) A := by
  have h1 := h x hx
  cases hA : X x with
  | none => rw [hA] at h1; exact Or.inl ⟨rfl, h1.1⟩
  | some A => rw [hA] at h1; exact Or.inr ⟨A, rfl, h1.1, h1.2⟩
def orA (r : Int32) (a : AS) : Rs := (r, if r = -4 then refA (-4) a else a)
def staI (A : AE) : Int32 := if (bey A A 200 401 0 0 [(1, 1)]).1 = -4 then -4 else nI (bey A A 200 401 0 0 [(1, 1)]).2.length
def abtV (A : AE) (w : Nat) (a : AS) : Rs := if w = 0 then (nI A.2.2.2, a) else if w = 1 then ((if finB A 1 = true then 1 else 0), a) else if w = 2 then (bcI (vb (A.1 0) 25), a) else if w = 3 then (bcI (vb (fun i => A.2.2.1 i && decide (i ≠ 0)) 25), a) else orA (staI A) a
def abtA (a : AS) (x w : Int32) : Rs := match rn 4 x with
  | none => rfA (-2) a
  | some x => match rn 5 w with
    | none => rfA (-2) a
    | some w => match aX a x with
      | none => (-1, a)
      | some A => abtV A w a
/-- a word of n signs, by its figures -/
def wdOk : Nat → Nat → Bool
  | 0, c => decide (c = 0)
  | n + 1, c => decide (c % 10 < 8) && wdOk n (c / 10)
theorem wdOk_s (n c : Nat) : wdOk (n + 1) c = (decide (c % 10 < 8) && wdOk n (c / 10)) := rfl
theorem wdOk_at {n c j : Nat} (h : wdOk n c = true) (hj : j < n) : c / 10 ^ j % 10 < 8 := by
  induction n generalizing c j with
  | zero => omega
  | succ n ih =>
    unfold wdOk at h
    rw [Bool.and_eq_true] at h
    cases j with
    | zero => simpa using of_decide_eq_true h.1
    | succ j =>
      have := ih h.2 (j := j) (by omega)
      rw [Nat.pow_succ, Nat.mul_comm, ← Nat.div_div_eq_div_mul]
      exact this
def accS (A : AE) (c n : Nat) : Nat → Nat
  | 0 => 1
  | k + 1 => nx A (accS A c n k) (c / 10 ^ (n - 1 - k) % 10)
theorem accS_lt (A : AE) (c n k : Nat) : accS A c n k < 33554432 := by
  cases k with
  | zero => exact (by decide : 1 < 33554432)
  | succ k => exact nx_lt _ _ _
def accA (a : AS) (x n c : Int32) : Rs := match rn 4 x with
  | none => rfA (-2) a
  | some x => match rn 10 n with
    | none => rfA (-2) a
    | some n => if c < 0 then rfA (-2) a else if wdOk n c.toNatClampNeg = true then (match aX a x with
      | none => rfA (-3) a
      | some A => ((if finB A (accS A c.toNatClampNeg n n) = true then 1 else 0), a)) else rfA (-2) a
def wrdA (a : AS) (x n : Int32) : Rs := match rn 4 x with
  | none => rfA (-2) a
  | some x => match rn 10 n with
    | none => rfA (-2) a
    | some n => match aX a x with
      | none => rfA (-3) a
      | some A => orA (rouI A anyL 0 0 n) a
def beyA (a : AS) (x y : Int32) : Rs := match rn 4 x with
  | none => rfA (-2) a
  | some x => match rn 4 y with
    | none => rfA (-2) a
    | some y => match aX a x with
      | none => rfA (-3) a
      | some A => match aX a y with
        | none => rfA (-3) a
        | some B => orA (bey A B 400 401 0 0 [(1, 1)]).1 a
theorem nxt_one (A : AE) (i : Nat) : nxt A (fun p => Nat.testBit 1 p) i = A.1 0 i := by
  have h1 : ∀ p, p < 25 → Nat.testBit 1 p = decide (p = 0) := by decide
  rw [Bool.eq_iff_iff, nxt_iff]
  constructor
  · rintro ⟨p, hp, h2, h3⟩
    rw [h1 p hp] at h2
    rw [of_decide_eq_true h2] at h3
    exact h3
  · intro h
    exact ⟨0, by decide, by decide, h⟩
section ClAsk
variable {τ : Ty} {Q : Option Value → Ty → Prop} {a : AS}
theorem about_spec {x w : Int32} (hC : CIs τ a) (h : ∀ τ', OffC τ τ' → CIs τ' (abtA a x w).2 → Q (some (.int (abtA a x w).1)) τ') : RT mX10_about none 0 [some (.ref 0), some (.int x), some (.int w), none] [] τ Q := by
  have no : abtA a x w = rfA (-2) a → RT mX10_about none 16 [some (.ref 0), some (.int x), some (.int w), none] [] τ Q := by
    intro e
    rw [e] at h
    refine rt_run 2 rfl ?_
    refine rt_cV (ci := 10) mX10_refuse kX10_about_19 okX10_refuse rfl rfl rfl rfl rfl ?_
    exact refuse_spec hC (Or.inl rfl) (fun τ' hO hC' => rt_iret rfl rfl (h τ' hO hC'))
  refine rt_run 1 rfl ?_
  refine rt_cS mX10_isExpression kX10_about_1 okX10_isExpression rfl rfl ?_
  refine isExpr_spec (fun hh => ?_) (fun x' hx ex => ?_)
  · exact rt_if_eq rfl (fun _ => no (by unfold abtA; rw [rn_no (by decide) hh])) (fun hc => absurd rfl hc)
  subst ex
  refine rt_if_eq rfl (fun hc => absurd hc (by decide)) (fun _ => ?_)
  have rl : rn 5 w = none → abtA a (nI x') w = rfA (-2) a := fun e => by
    unfold abtA; rw [rn_so hx (by decide)]; dsimp only; rw [e]
  refine rt_run 1 rfl ?_
  refine rt_if_lt rfl (fun hc => no (rl (rn_out (Or.inl hc)))) (fun hc => ?_)
  refine rt_run 2 rfl ?_
  rcases pk_ix w (n := 5) (by decide) with g | g | ⟨w', hw, ew⟩
  · exact absurd g hc
  · exact rt_ic_le rfl (fun hd => absurd hd (le_no (n := 4) (by decide) g)) (fun hd => no (rl (rn_out (Or.inr g))))
  subst ew
  have eA : abtA a (nI x') (nI w') = (match aX a x' with
      | none => (-1, a)
      | some A => abtV A w' a) := by
    unfold abtA; rw [rn_so hx (by omega)]; dsimp only; rw [rn_so hw (by decide)]
  rw [eA] at h
  refine rt_le w' 4 rfl (by omega) (by omega) (fun _ => ?_) (fun _ => by omega)
  obtain ⟨f0, f1, f2, f3, f4, a0, a1, h38⟩ := isE_f (isE_x hx)
  refine rt_run 3 rfl ?_
  refine rt_aald rfl hx ?_
  refine rt_run 2 rfl ?_
  refine rt_getI rfl f4 ?_
  rcases hC.2.2.2.2.1.told hx with ⟨hA, e4⟩ | ⟨A, hA, e4, hE⟩
  · rw [hA] at h
    rw [e4]
    refine rt_if_ne rfl (fun hc => absurd rfl hc) (fun _ => ?_)
    refine rt_run 1 rfl ?_
    exact rt_iret rfl rfl (h τ (OffC.rf _) hC)
  · rw [hA] at h
    dsimp only at h
    rw [e4]
    refine rt_if_ne rfl (fun _ => ?_) (fun hc => absurd hc (by decide))
    refine rt_run 1 rfl ?_
    rcases (show w' = 0 ∨ w' = 1 ∨ w' = 2 ∨ w' = 3 ∨ w' = 4 by omega) with rfl | rfl | rfl | rfl | rfl
    · refine rt_tsIn (off := 32) (tgt := 72) rfl (by decide) (by decide) rfl (by decide) ?_
      refine rt_run 1 rfl ?_
      refine rt_getI rfl f3 ?_
      rw [hE.1]
      exact rt_iret rfl rfl (h τ (OffC.rf _) hC)
    · refine rt_tsIn (off := 37) (tgt := 77) rfl (by decide) (by decide) rfl (by decide) ?_
      refine rt_run 2 rfl ?_
      refine rt_cV (ci := 2) mX2_finishes kX10_about_79 okX2_finishes (isE_s (isE_x hx)) rfl rfl rfl rfl ?_
      refine finishes_specN (c := 1) (isE_x hx) hE (by decide) ?_
      have hh := h τ (OffC.rf _) hC
      have hv : (abtV A 1 a).1 = if finB A 1 = true then 1 else 0 := rfl
      rw [hv] at hh
      cases hf : finB A 1 with
      | true =>
        rw [hf] at hh
        refine rt_if_eq rfl (fun hc => absurd hc (by decide)) (fun _ => ?_)
        refine rt_run 2 rfl ?_
        exact rt_iret rfl rfl hh
      | false =>
        rw [hf] at hh
        refine rt_if_eq rfl (fun _ => ?_) (fun hc => absurd rfl hc)
        refine rt_run 1 rfl ?_
        exact rt_iret rfl rfl hh
    · refine rt_tsIn (off := 51) (tgt := 91) rfl (by decide) (by decide) rfl (by decide) ?_
      refine rt_run 2 rfl ?_
      refine rt_cV (ci := 2) mX2_behind kX10_about_93 okX2_behind (isE_s (isE_x hx)) rfl rfl rfl rfl ?_
      refine behind_specN (c := 1) (isE_x hx) hE (fun g hg => ?_)
      have eg : g = vb (A.1 0) 25 := by
        apply b_ext
        intro i hi
        rw [hg i hi, nxt_one, vb_bt _ _ (by decide) hi]
        by_cases h25 : i < 25
        · simp [h25]
        · cases hb : A.1 0 i with
          | false => simp
          | true =>
            have := hE.2.2.2.2.2.1 0 i hb
            have := hE.2.2.2.2.1
            omega
      rw [eg]
      refine rt_cS mJ6_bitCount_0f7a4 kX10_about_96 okJ6_bitCount_0f7a4 rfl rfl ?_
      refine bitCount_spec ?_
      exact rt_iret rfl rfl (h τ (OffC.rf _) hC)
    · refine rt_tsIn (off := 60) (tgt := 100) rfl (by decide) (by decide) rfl (by decide) ?_
      refine rt_run 1 rfl ?_
      refine rt_getI rfl f2 ?_
      refine rt_run 2 rfl ?_
      have eg : gF τ (51 + 3 * x') 2 &&& -2 = vb (fun i => A.2.2.1 i && decide (i ≠ 0)) 25 := by
        apply b_ext
        intro i hi
        rw [b_and, b_m2 hi, hE.2.2.2.1 i hi, vb_bt _ _ (by decide) hi]
        by_cases h25 : i < 25
        · simp [h25]
        · cases hb : A.2.2.1 i with
          | false => simp
          | true =>
            have := hE.2.2.2.2.2.2.2 i hb
            have := hE.2.2.2.2.1
            omega
      rw [eg]
      refine rt_cS mJ6_bitCount_0f7a4 kX10_about_107 okJ6_bitCount_0f7a4 rfl rfl ?_
      refine bitCount_spec ?_
      exact rt_iret rfl rfl (h τ (OffC.rf _) hC)
    · refine rt_tsOut (tgt := 111) rfl (Or.inr (by decide)) (by decide) ?_
      refine rt_run 4 rfl ?_
      refine rt_cV (ci := 0) mX0_statesOf kX10_about_117 okX0_statesOf rfl rfl rfl rfl rfl ?_
      refine statesOf0_spec (isE_x hx) hE (fun τ1 hO1 => ?_)
      refine rt_cV (ci := 10) mX10_orRefused kX10_about_120 okX10_orRefused rfl rfl rfl rfl rfl ?_
      refine orRefused_spec (a := a) (hC.scr (hO1.w.up (by decide)) (hC.2.2.2.2.2.1.eq hO1.2)) (fun τ2 hO2 hC2 => ?_)
      exact rt_iret rfl rfl (h τ2 ((hO1.c (by decide)).tr hO2) hC2)
def b01 : Bool → Int32
  | true => 1
  | false => 0
def isWdB (n c : Int32) : Bool := match rn 10 n with
  | none => false
  | some n => !decide (c < 0) && wdOk n c.toNatClampNeg
theorem isWord_spec {n c : Int32} (h : Q (some (.int (b01 (isWdB n c)))) τ) : RT mX10_isWord none 0 [some (.int n), some (.int c), none, none] [] τ Q := by
  have no : isWdB n c = false → RT mX10_isWord none 14 [some (.int n), some (.int c), none, none] [] τ Q := by
    intro e
    rw [e] at h
    refine rt_run 1 rfl ?_
    exact rt_zret rfl rfl (Or.inl rfl) h
  refine rt_run 1 rfl ?_
  refine rt_if_lt rfl (fun hc => no (by unfold isWdB; rw [rn_out (Or.inl hc)])) (fun hc => ?_)
  refine rt_run 2 rfl ?_
  rcases pk_ix n (n := 10) (by decide) with g | g | ⟨n', hn, en⟩
  · exact absurd g hc
  · refine rt_ic_gt rfl (fun _ => no (by unfold isWdB; rw [rn_out (Or.inr g)])) (fun hd => ?_)
    exfalso
    rw [Int32.le_iff_toInt_le] at g
    rw [Int32.lt_iff_toInt_lt] at hd
    have e10 : (nI 10).toInt = 10 := by decide
    have e9 : (9 : Int32).toInt = 9 := by decide
    omega
  subst en
  have eW : isWdB (nI n') c = (!decide (c < 0) && wdOk n' c.toNatClampNeg) := by unfold isWdB; rw [rn_so hn (by decide)]
  rw [eW] at h no
  refine rt_gt n' 9 rfl (by omega) (by omega) (fun _ => by omega) (fun _ => ?_)
  refine rt_run 1 rfl ?_
  by_cases hneg : c < 0
  · refine rt_if_ge rfl (fun hd => ?_) (fun _ => no (by simp [hneg]))
    exfalso
    rw [Int32.le_iff_toInt_le] at hd
    rw [Int32.lt_iff_toInt_lt] at hneg
    omega
  · obtain ⟨c', hc', ec⟩ := nI_of hneg
    subst ec
    have e1 : (!decide (nI c' < 0) && wdOk n' (nI c').toNatClampNeg) = wdOk n' c' := by
      rw [nI_clamp hc']; simp [hneg]
    rw [e1] at h
    refine rt_if_ge rfl (fun _ => ?_) (fun hd => absurd (nI_pos' hc') hd)
    have loop : ∀ d k r, k + d = n' → r < 2 ^ 31 → wdOk n' c' = wdOk d r → RT mX10_isWord none 20 [some (.int (nI n')), some (.int (nI c')), some (.int (nI r)), some (.int (nI k))] [] τ Q := by
      intro d
      induction d with
      | zero =>
        intro k r hk hr e
        refine rt_run 2 rfl ?_
        refine rt_ge k n' rfl (by omega) (by omega) (fun _ => ?_) (fun _ => by omega)
        refine rt_run 1 rfl ?_
        rw [e] at h
        unfold wdOk at h
        refine rt_if_ne rfl (fun hne => ?_) (fun heq => ?_)
        · have : r ≠ 0 := fun e => hne (by rw [e]; rfl)
          rw [decide_eq_false this] at h
          refine rt_run 1 rfl ?_
          exact rt_zret rfl rfl (Or.inl rfl) h
        · have : r = 0 := by
            by_cases hz : r = 0
            · exact hz
            · exact absurd heq (nI_ne0 (by omega) (by omega))
          rw [decide_eq_true this] at h
          refine rt_run 2 rfl ?_
          exact rt_zret rfl rfl (Or.inr rfl) h
      | succ d ih =>
        intro k r hk hr e
        rw [wdOk_s] at e
        refine rt_run 2 rfl ?_
        refine rt_ge k n' rfl (by omega) (by omega) (fun _ => by omega) (fun _ => ?_)
        refine rt_run 2 rfl ?_
        refine rt_irem rfl (by decide) ?_
        rw [show nI r - nI r / 10 * 10 = nI (r % 10) from pk_rem (d := 10) hr (by decide) (by decide)]
        refine rt_run 1 rfl ?_
        refine rt_lt (r % 10) 8 rfl (by omega) (by omega) (fun hlt => ?_) (fun hge => ?_)
        · refine rt_run 2 rfl ?_
          refine rt_idiv rfl (by decide) ?_
          rw [show nI r / 10 = nI (r / 10) from pk_div (d := 10) hr (by decide) (by decide)]
          refine rt_run 3 rfl ?_
          rw [← nI_succ]
          refine ih (k + 1) (r / 10) (by omega) (by omega) ?_
          rw [e]; simp [hlt]
        · refine rt_run 1 rfl ?_
          rw [e, decide_eq_false (Nat.not_lt.mpr hge), Bool.false_and] at h
          exact rt_zret rfl rfl (Or.inl rfl) h
    refine rt_run 4 rfl ?_
    exact loop n' 0 c' (by omega) hc' rfl
theorem accepts_spec {x n c : Int32} (hC : CIs τ a) (h : ∀ τ', OffC τ τ' → CIs τ' (accA a x n c).2 → Q (some (.int (accA a x n c).1)) τ') : RT mX10_accepts none 0 [some (.ref 0), some (.int x), some (.int n), some (.int c), none, none, none, none] [] τ Q := by
  have no : accA a x n c = rfA (-2) a → RT mX10_accepts none 15 [some (.ref 0), some (.int x), some (.int n), some (.int c), none, none, none, none] [] τ Q := by
    intro e
    rw [e] at h
    refine rt_run 2 rfl ?_
    refine rt_cV (ci := 10) mX10_refuse kX10_accepts_18 okX10_refuse rfl rfl rfl rfl rfl ?_
    exact refuse_spec hC (Or.inl rfl) (fun τ' hO hC' => rt_iret rfl rfl (h τ' hO hC'))
  refine rt_run 1 rfl ?_
  refine rt_cS mX10_isExpression kX10_accepts_1 okX10_isExpression rfl rfl ?_
  refine isExpr_spec (fun hh => ?_) (fun x' hx ex => ?_)
  · exact rt_if_eq rfl (fun _ => no (by unfold accA; rw [rn_no (by decide) hh])) (fun hc => absurd rfl hc)
  subst ex
  refine rt_if_eq rfl (fun hc => absurd hc (by decide)) (fun _ => ?_)
  refine rt_run 2 rfl ?_
  refine rt_cS mX10_isWord kX10_accepts_9 okX10_isWord rfl rfl ?_
  refine isWord_spec ?_
  have eA : accA a (nI x') n c = match rn 10 n with
    | none => rfA (-2) a
    | some n => if c < 0 then rfA (-2) a else if wdOk n c.toNatClampNeg = true then (match aX a x' with
      | none => rfA (-3) a
      | some A => ((if finB A (accS A c.toNatClampNeg n n) = true then 1 else 0), a)) else rfA (-2) a := by
    unfold accA; rw [rn_so hx (by decide)]
  rcases pk_ix n (n := 10) (by decide) with g | g | ⟨n', hn, en⟩
  · rw [show isWdB n c = false by unfold isWdB; rw [rn_out (Or.inl g)]]
    exact rt_if_ne rfl (fun hc => absurd rfl hc) (fun _ => no (by rw [eA, rn_out (Or.inl g)]))
  · rw [show isWdB n c = false by unfold isWdB; rw [rn_out (Or.inr g)]]
    exact rt_if_ne rfl (fun hc => absurd rfl hc) (fun _ => no (by rw [eA, rn_out (Or.inr g)]))
  subst en
  have eW : isWdB (nI n') c = (!decide (c < 0) && wdOk n' c.toNatClampNeg) := by unfold isWdB; rw [rn_so hn (by decide)]
  rw [eW]
  rw [rn_so hn (by decide)] at eA
  dsimp only at eA
  by_cases hneg : c < 0
  · rw [if_pos hneg] at eA
    rw [decide_eq_true hneg]
    exact rt_if_ne rfl (fun hc => absurd rfl hc) (fun _ => no eA)
  rw [if_neg hneg] at eA
  rw [decide_eq_false hneg]
  obtain ⟨c', hc', ec⟩ := nI_of hneg
  subst ec
  rw [nI_clamp hc'] at eA ⊢
  cases hwd : wdOk n' c' with
  | false =>
    rw [hwd, if_neg (by decide)] at eA
    exact rt_if_ne rfl (fun hc => absurd rfl hc) (fun _ => no eA)
  | true =>
  rw [hwd, if_pos rfl] at eA
  rw [eA] at h
  refine rt_if_ne rfl (fun _ => ?_) (fun hc => absurd hc (by decide))
  obtain ⟨f0, f1, f2, f3, f4, a0, a1, h38⟩ := isE_f (isE_x hx)
  refine rt_run 3 rfl ?_
  refine rt_aald rfl hx ?_
  refine rt_run 2 rfl ?_
  refine rt_getI rfl f4 ?_
  rcases hC.2.2.2.2.1.told hx with ⟨hA, e4⟩ | ⟨A, hA, e4, hE⟩
  · rw [hA] at h
    rw [e4]
    refine rt_if_ne rfl (fun hc => absurd rfl hc) (fun _ => ?_)
    refine rt_run 2 rfl ?_
    refine rt_cV (ci := 10) mX10_refuse kX10_accepts_41 okX10_refuse rfl rfl rfl rfl rfl ?_
    exact refuse_spec hC (Or.inr (Or.inl rfl)) (fun τ' hO hC' => rt_iret rfl rfl (h τ' hO hC'))
  rw [hA] at h
  dsimp only at h
  rw [e4]
  refine rt_if_ne rfl (fun _ => ?_) (fun hc => absurd hc (by decide))
  have p10 : ∀ j, j ≤ 8 → 10 ^ j < 2 ^ 31 := by decide
  have hfin := h τ (OffC.rf _) hC
  have loop2 : ∀ d k m (y : Nat), k + d = n' → m = (if d = 0 then 1 else 10 ^ (d - 1)) → RT mX10_accepts none 76 [some (.ref 0), some (.int (nI x')), some (.int (nI n')), some (.int (nI c')), some (.ref (51 + 3 * x')), some (.int (nI m)), some (.int (nI (accS A c' n' k))), some (.int (nI k))] [] τ Q := by
    intro d
    induction d with
    | zero =>
      intro k m _ hk hm
      have : k = n' := by omega
      subst this
      refine rt_run 2 rfl ?_
      refine rt_ge k k rfl (by omega) (by omega) (fun _ => ?_) (fun _ => by omega)
      refine rt_run 2 rfl ?_
      refine rt_cV (ci := 2) mX2_finishes kX10_accepts_119 okX2_finishes (isE_s (isE_x hx)) rfl rfl rfl rfl ?_
      refine finishes_specN (isE_x hx) hE (accS_lt _ _ _ _) ?_
      cases hf : finB A (accS A c' k k) with
      | true =>
        rw [hf] at hfin
        refine rt_if_eq rfl (fun hc => absurd hc (by decide)) (fun _ => ?_)
        refine rt_run 2 rfl ?_
        exact rt_iret rfl rfl hfin
      | false =>
        rw [hf] at hfin
        refine rt_if_eq rfl (fun _ => ?_) (fun hc => absurd rfl hc)
        refine rt_run 1 rfl ?_
        exact rt_iret rfl rfl hfin
    | succ d ih =>
      intro k m y hk hm
      rw [if_neg (by omega)] at hm
      have hm : m = 10 ^ d := hm
      have hmlt := p10 d (by omega)
      have hpos : 0 < 10 ^ d := Nat.pos_of_ne_zero (by intro e; exact absurd e (by simp))
      subst hm
      refine rt_run 2 rfl ?_
      refine rt_ge k n' rfl (by omega) (by omega) (fun _ => by omega) (fun _ => ?_)
      refine rt_run 4 rfl ?_
      refine rt_idiv rfl (nI_ne0 hpos hmlt) ?_
      rw [pk_div hc' hpos hmlt]
      refine rt_run 1 rfl ?_
      have hdl : c' / 10 ^ d < 2 ^ 31 := Nat.lt_of_le_of_lt (Nat.div_le_self _ _) hc'
      refine rt_irem rfl (by decide) ?_
      rw [show nI (c' / 10 ^ d) - nI (c' / 10 ^ d) / 10 * 10 = nI (c' / 10 ^ d % 10) from pk_rem (d := 10) hdl (by decide) (by decide)]
      refine rt_cV (ci := 2) mX2_after kX10_accepts_93 okX2_after (isE_s (isE_x hx)) rfl rfl rfl rfl ?_
      refine after_specN (isE_x hx) hE (wdOk_at hwd (by omega)) ?_
      refine rt_run 4 rfl ?_
      refine rt_idiv rfl (by decide) ?_
      rw [show nI (10 ^ d) / 10 = nI (10 ^ d / 10) from pk_div (d := 10) hmlt (by decide) (by decide)]
      refine rt_max rfl (by decide +kernel) (by decide) (Nat.le_of_ble_eq_true rfl) ?_
      have emax : (if (1 : Int32) < nI (10 ^ d / 10) then nI (10 ^ d / 10) else (1 : Int32)) = nI (if d = 0 then 1 else 10 ^ (d - 1)) := by
        cases d with
        | zero => decide
        | succ d =>
          have e1 : 10 ^ (d + 1) / 10 = 10 ^ d := by rw [Nat.pow_succ, Nat.mul_div_cancel _ (by decide)]
          rw [e1, if_neg (show ¬ d + 1 = 0 by omega)]
          show _ = nI (10 ^ d)
          split
          · rfl
          · rename_i hn1
            have hlt1 : ¬ 1 < 10 ^ d := fun hh => hn1 (nI_lt (a := 1) hh (p10 d (by omega)))
            have : 0 < 10 ^ d := Nat.pos_of_ne_zero (by intro e; exact absurd e (by simp))
            have : 10 ^ d = 1 := by omega
            rw [this]; rfl
      rw [emax]
      refine rt_run 3 rfl ?_
      rw [← nI_succ]
      have := ih (k + 1) _ y (by omega) rfl
      have es : accS A c' n' (k + 1) = nx A (accS A c' n' k) (c' / 10 ^ d % 10) := by
        show nx A _ (c' / 10 ^ (n' - 1 - k) % 10) = _
        rw [show n' - 1 - k = d by omega]
      rw [es] at this
      exact this
  have loop1 : ∀ d k, k + d = n' → 1 ≤ k → RT mX10_accepts none 51 [some (.ref 0), some (.int (nI x')), some (.int (nI n')), some (.int (nI c')), some (.ref (51 + 3 * x')), some (.int (nI (10 ^ (k - 1)))), some (.int (nI k)), none] [] τ Q := by
    intro d
    induction d with
    | zero =>
      intro k hk h1
      refine rt_run 2 rfl ?_
      refine rt_ge k n' rfl (by omega) (by omega) (fun _ => ?_) (fun _ => by omega)
      refine rt_run 4 rfl ?_
      exact loop2 n' 0 _ 0 (by omega) (by rw [if_neg (by omega), show n' = k by omega])
    | succ d ih =>
      intro k hk h1
      refine rt_run 2 rfl ?_
      refine rt_ge k n' rfl (by omega) (by omega) (fun _ => by omega) (fun _ => ?_)
      refine rt_run 6 rfl ?_
      have := ih (k + 1) (by omega) (by omega)
      rw [show 10 ^ (k + 1 - 1) = 10 ^ (k - 1) * 10 by rw [← Nat.pow_succ]; congr 1; omega, ← pk_mul, nI_succ k] at this
      exact this
  refine rt_run 4 rfl ?_
  by_cases hn0 : n' = 0
  · subst hn0
    refine rt_run 2 rfl ?_
    refine rt_ge 1 0 rfl (by omega) (by omega) (fun _ => ?_) (fun _ => by omega)
    refine rt_run 4 rfl ?_
    exact loop2 0 0 1 0 rfl rfl
  · exact loop1 (n' - 1) 1 (by omega) (by omega)
theorem words_spec {x n : Int32} (hC : CIs τ a) (h : ∀ τ', OffC τ τ' → CIs τ' (wrdA a x n).2 → Q (some (.int (wrdA a x n).1)) τ') : RT mX10_words none 0 [some (.ref 0), some (.int x), some (.int n)] [] τ Q := by
  have no : wrdA a x n = rfA (-2) a → RT mX10_words none 17 [some (.ref 0), some (.int x), some (.int n)] [] τ Q := by
    intro e
    rw [e] at h
    refine rt_run 2 rfl ?_
    refine rt_cV (ci := 10) mX10_refuse kX10_words_20 okX10_refuse rfl rfl rfl rfl rfl ?_
    exact refuse_spec hC (Or.inl rfl) (fun τ' hO hC' => rt_iret rfl rfl (h τ' hO hC'))
  refine rt_run 1 rfl ?_
  refine rt_cS mX10_isExpression kX10_words_1 okX10_isExpression rfl rfl ?_
  refine isExpr_spec (fun hh => ?_) (fun x' hx ex => ?_)
  · exact rt_if_eq rfl (fun _ => no (by unfold wrdA; rw [rn_no (by decide) hh])) (fun hc => absurd rfl hc)
  subst ex
  refine rt_if_eq rfl (fun hc => absurd hc (by decide)) (fun _ => ?_)
  have rl : rn 10 n = none → wrdA a (nI x') n = rfA (-2) a := fun e => by
    unfold wrdA; rw [rn_so hx (by decide)]; dsimp only; rw [e]
  refine rt_run 1 rfl ?_
  refine rt_if_lt rfl (fun hc => no (rl (rn_out (Or.inl hc)))) (fun hc => ?_)
  refine rt_run 2 rfl ?_
  rcases pk_ix n (n := 10) (by decide) with g | g | ⟨n', hn, en⟩
  · exact absurd g hc
  · exact rt_ic_le rfl (fun hd => absurd hd (le_no (n := 9) (by decide) g)) (fun hd => no (rl (rn_out (Or.inr g))))
  subst en
  have eA : wrdA a (nI x') (nI n') = (match aX a x' with
      | none => rfA (-3) a
      | some A => orA (rouI A anyL 0 0 n') a) := by
    unfold wrdA; rw [rn_so hx (by omega)]; dsimp only; rw [rn_so hn (by decide)]
  rw [eA] at h
  refine rt_le n' 9 rfl (by omega) (by omega) (fun _ => ?_) (fun _ => by omega)
  obtain ⟨f0, f1, f2, f3, f4, a0, a1, h38⟩ := isE_f (isE_x hx)
  refine rt_run 3 rfl ?_
  refine rt_aald rfl hx ?_
  refine rt_getI rfl f4 ?_
  rcases hC.2.2.2.2.1.told hx with ⟨hA, e4⟩ | ⟨A, hA, e4, hE⟩
  · rw [hA] at h
    rw [e4]
    refine rt_if_ne rfl (fun hc => absurd rfl hc) (fun _ => ?_)
    refine rt_run 2 rfl ?_
    refine rt_cV (ci := 10) mX10_refuse kX10_words_39 okX10_refuse rfl rfl rfl rfl rfl ?_
    exact refuse_spec hC (Or.inr (Or.inl rfl)) (fun τ' hO hC' => rt_iret rfl rfl (h τ' hO hC'))
  rw [hA] at h
  dsimp only at h
  rw [e4]
  obtain ⟨wa, wb, hw1, hw2⟩ := hC.2.2.2.2.2.1
  refine rt_if_ne rfl (fun _ => ?_) (fun hc => absurd hc (by decide))
  refine rt_run 6 rfl ?_
  refine rt_aald rfl hx ?_
  refine rt_run 5 rfl ?_
  refine rt_cV (ci := 9) mX9_routesOf kX10_words_61 okX9_routesOf rfl rfl rfl rfl rfl ?_
  refine routesOf_spec (u := 0) (v := 0) hw1 hw2 (isE_x hx) (Or.inr (Or.inr rfl)) hE hC.2.2.1 anyL_ok (by decide) (by decide) (by omega) (fun τ1 wa' wb' hO1 hw1' hw2' => ?_)
  refine rt_cV (ci := 10) mX10_orRefused kX10_words_64 okX10_orRefused rfl rfl rfl rfl rfl ?_
  refine orRefused_spec (a := a) (hC.scr (hO1.up (by decide)) ⟨wa', wb', hw1', hw2'⟩) (fun τ2 hO2 hC2 => ?_)
  exact rt_iret rfl rfl (h τ2 ((hO1.c (by decide)).tr hO2) hC2)
theorem beyond_spec {x y : Int32} (hC : CIs τ a) (h : ∀ τ', OffC τ τ' → CIs τ' (beyA a x y).2 → Q (some (.int (beyA a x y).1)) τ') : RT mX10_beyond none 0 [some (.ref 0), some (.int x), some (.int y)] [] τ Q := by
  have no : beyA a x y = rfA (-2) a → RT mX10_beyond none 14 [some (.ref 0), some (.int x), some (.int y)] [] τ Q := by
    intro e
    rw [e] at h
    refine rt_run 2 rfl ?_
    refine rt_cV (ci := 10) mX10_refuse kX10_beyond_17 okX10_refuse rfl rfl rfl rfl rfl ?_
    exact refuse_spec hC (Or.inl rfl) (fun τ' hO hC' => rt_iret rfl rfl (h τ' hO hC'))
  have no3 : beyA a x y = rfA (-3) a → RT mX10_beyond none 45 [some (.ref 0), some (.int x), some (.int y)] [] τ Q := by
    intro e
    rw [e] at h
    refine rt_run 2 rfl ?_
    refine rt_cV (ci := 10) mX10_refuse kX10_beyond_48 okX10_refuse rfl rfl rfl rfl rfl ?_
    exact refuse_spec hC (Or.inr (Or.inl rfl)) (fun τ' hO hC' => rt_iret rfl rfl (h τ' hO hC'))
  refine rt_run 1 rfl ?_
  refine rt_cS mX10_isExpression kX10_beyond_1 okX10_isExpression rfl rfl ?_
  refine isExpr_spec (fun hh => ?_) (fun x' hx ex => ?_)
  · exact rt_if_eq rfl (fun _ => no (by unfold beyA; rw [rn_no (by decide) hh])) (fun hc => absurd rfl hc)
  subst ex
  refine rt_if_eq rfl (fun hc => absurd hc (by decide)) (fun _ => ?_)
  refine rt_run 1 rfl ?_
  refine rt_cS mX10_isExpression kX10_beyond_8 okX10_isExpression rfl rfl ?_
  refine isExpr_spec (fun hh => ?_) (fun y' hy ey => ?_)
  · exact rt_if_ne rfl (fun hc => absurd rfl hc) (fun _ => no (by unfold beyA; rw [rn_so hx (by decide)]; dsimp only; rw [rn_no (by decide) hh]))
  subst ey
  refine rt_if_ne rfl (fun _ => ?_) (fun hc => absurd hc (by decide))
  have eA : beyA a (nI x') (nI y') = (match aX a x' with
      | none => rfA (-3) a
      | some A => match aX a y' with
        | none => rfA (-3) a
        | some B => orA (bey A B 400 401 0 0 [(1, 1)]).1 a) := by
    unfold beyA; rw [rn_so hx (by omega)]; dsimp only; rw [rn_so hy (by decide)]
  obtain ⟨f0, f1, f2, f3, f4, a0, a1, h38⟩ := isE_f (isE_x hx)
  obtain ⟨p0, p1, p2, p3, p4, b0, b1, q38⟩ := isE_f (isE_x hy)
  refine rt_run 3 rfl ?_
  refine rt_aald rfl hx ?_
  refine rt_getI rfl f4 ?_
  rcases hC.2.2.2.2.1.told hx with ⟨hA, e4⟩ | ⟨A, hA, e4, hE⟩
  · rw [e4]
    exact rt_if_eq rfl (fun _ => no3 (by rw [eA, hA])) (fun hc => absurd rfl hc)
  rw [e4]
  refine rt_if_eq rfl (fun hc => absurd hc (by decide)) (fun _ => ?_)
  refine rt_run 3 rfl ?_
  refine rt_aald rfl hy ?_
  refine rt_getI rfl p4 ?_
  rcases hC.2.2.2.2.1.told hy with ⟨hB, e5⟩ | ⟨B, hB, e5, hF⟩
  · rw [e5]
    exact rt_if_ne rfl (fun hc => absurd rfl hc) (fun _ => no3 (by rw [eA, hA, hB]))
  rw [e5]
  refine rt_if_ne rfl (fun _ => ?_) (fun hc => absurd hc (by decide))
  rw [eA, hA, hB] at h
  dsimp only at h
  refine rt_run 6 rfl ?_
  refine rt_aald rfl hx ?_
  refine rt_run 3 rfl ?_
  refine rt_aald rfl hy ?_
  refine rt_run 1 rfl ?_
  refine rt_cV (ci := 0) mX0_shortestBeyond kX10_beyond_72 okX0_shortestBeyond rfl rfl rfl rfl rfl ?_
  refine shortestBeyond_spec (lim := 400) (isE_x hx) (isE_x hy) hE hF (by decide) (by decide) (fun τ1 hO1 _ => ?_)
  refine rt_cV (ci := 10) mX10_orRefused kX10_beyond_75 okX10_orRefused rfl rfl rfl rfl rfl ?_
  refine orRefused_spec (a := a) (hC.scr (hO1.w.up (by decide)) (hC.2.2.2.2.2.1.eq hO1.2)) (fun τ2 hO2 hC2 => ?_)
  exact rt_iret rfl rfl (h τ2 ((hO1.c (by decide)).tr hO2) hC2)
end ClAsk
end
section
/-! the class's answers, ends, pairs, far, count, route, bridge -/
theorem mem_fwd {G : Gr} {w : Option Nat} {n : Nat} {st : Nat × Nat × Nat × Nat} : st ∈ fwdN G w n ↔ ∃ i q, i < n ∧ G[i]? = some q ∧ w ≠ some i ∧ st = (q.1, q.2.1, q.2.2, i) := by
  induction n with
  | zero => simp [fwdN]
  | succ n ih =>
    unfold fwdN
    rw [List.mem_append, ih]
    constructor
    · rintro (⟨i, q, h1, h2⟩ | h)
      · exact ⟨i, q, by omega, h2⟩
      · cases hg : G[n]? with
        | none => rw [hg] at h; simp at h
        | some q =>
          rw [hg] at h
          dsimp only at h
          split at h
          · simp at h
          · rename_i hw
            simp at h
            exact ⟨n, q, by omega, hg, hw, h⟩
    · rintro ⟨i, q, h1, h2, h3, h4⟩
      by_cases hi : i = n
      · subst hi
        right
        rw [h2]
        dsimp only
        rw [if_neg h3, h4]
        simp
      · exact Or.inl ⟨i, q, by omega, h2, h3, h4⟩
theorem mem_bwd {G : Gr} {w : Option Nat} {n : Nat} {st : Nat × Nat × Nat × Nat} : st ∈ bwdN G w n ↔ ∃ i q, i < n ∧ G[i]? = some q ∧ w ≠ some i ∧ st = (q.2.2, q.2.1 + 4, q.1, i) := by
  induction n with
  | zero => simp [bwdN]
  | succ n ih =>
    unfold bwdN
    rw [List.mem_append, ih]
    constructor
    · rintro (⟨i, q, h1, h2⟩ | h)
      · exact ⟨i, q, by omega, h2⟩
      · cases hg : G[n]? with
        | none => rw [hg] at h; simp at h
        | some q =>
          rw [hg] at h
          dsimp only at h
          split at h
          · simp at h
          · rename_i hw
            simp at h
            exact ⟨n, q, by omega, hg, hw, h⟩
    · rintro ⟨i, q, h1, h2, h3, h4⟩
      by_cases hi : i = n
      · subst hi
        right
        rw [h2]
        dsimp only
        rw [if_neg h3, h4]
        simp
      · exact Or.inl ⟨i, q, by omega, h2, h3, h4⟩
theorem mem_stL {G : Gr} {w : Option Nat} {st : Nat × Nat × Nat × Nat} : st ∈ stL G w ↔ ∃ i q, G[i]? = some q ∧ w ≠ some i ∧ (st = (q.1, q.2.1, q.2.2, i) ∨ st = (q.2.2, q.2.1 + 4, q.1, i)) := by
  unfold stL
  rw [List.mem_append, mem_fwd, mem_bwd]
  constructor
  · rintro (⟨i, q, h1, h2, h3, h4⟩ | ⟨i, q, h1, h2, h3, h4⟩)
    · exact ⟨i, q, h2, h3, Or.inl h4⟩
    · exact ⟨i, q, h2, h3, Or.inr h4⟩
  · rintro ⟨i, q, h2, h3, h4 | h4⟩
    · exact Or.inl ⟨i, q, (List.getElem?_eq_some_iff.mp h2).1, h2, h3, h4⟩
    · exact Or.inr ⟨i, q, (List.getElem?_eq_some_iff.mp h2).1, h2, h3, h4⟩
theorem Rch_run {L : SL} {A : AE} {u v n k w p : Nat} (h1 : Rch L A u k w p) (h2 : Bk L A v n w p) : ∃ q, Rch L A u (k + n) v q ∧ A.2.2.1 q = true := by
  induction n generalizing k w p with
  | zero => obtain ⟨rfl, h3⟩ := h2; exact ⟨p, h1, h3⟩
  | succ n ih =>
    obtain ⟨st, hst, rfl, q, g1, g2, g3⟩ := h2
    have := ih (k := k + 1) (w := st.2.2.1) (p := q) ⟨st, hst, rfl, ⟨p, h1, g1⟩, g2⟩ g3
    rw [show k + (n + 1) = k + 1 + n by omega]
    exact this
theorem Ans_Bk {L : SL} {A : AE} {u v : Nat} : Ans L A u v ↔ ∃ n, Bk L A v n u 0 := by
  constructor
  · rintro ⟨m, q, h1, h2⟩
    exact ⟨m + 0, Rch_Bk h1 ⟨rfl, h2⟩⟩
  · rintro ⟨n, h⟩
    obtain ⟨q, h1, h2⟩ := Rch_run (k := 0) (w := u) (p := 0) ⟨rfl, rfl⟩ h
    exact ⟨_, q, h1, h2⟩
theorem gp_bk {L L' : SL} {A : AE} {v : Nat} (hL : StOk L) (hA : AEwf A) (hv : v < 10) (r a : Nat) (S : Nat → Bool) (hS : ∃ p, S p = true ∧ Bk L A v r a p) (hin : ∀ i ∈ gp L A v r a S, ∀ st, L[i]? = some st → st ∈ L') : ∃ p, S p = true ∧ Bk L' A v r a p := by
  induction r generalizing a S with
  | zero =>
    obtain ⟨p, h1, h2⟩ := hS
    exact ⟨p, h1, h2⟩
  | succ r ih =>
    obtain ⟨p, h1, h2⟩ := hS
    have hp := (Bk_lt hL hA hv h2).2
    obtain ⟨st, hst, e1, q, g1, g2, g3⟩ := h2
    obtain ⟨j, hj⟩ := List.getElem?_of_mem hst
    have hc : Cnd L A v a S r j := ⟨st, hj, e1, q, nxt_iff.mpr ⟨p, hp, h1, g1⟩, g2, g3⟩
    cases hf : fstI L A v a S r with
    | none =>
      exfalso
      unfold fstI at hf
      have := List.find?_eq_none.mp hf j (List.mem_range.mpr (List.getElem?_eq_some_iff.mp hj).1)
      exact this (cndB_iff.mpr hc)
    | some i =>
      have hci : Cnd L A v a S r i := by
        unfold fstI at hf
        exact cndB_iff.mp (List.find?_some (p := fun i => cndB L A v a S r i) hf)
      obtain ⟨st2, k1, k2, q2, k3, k4, k5⟩ := hci
      have hgp := gp_s hf k1
      rw [hgp] at hin
      obtain ⟨q3, m1, m2⟩ := ih st2.2.2.1 (fun q => nxt A S q && A.2.1 st2.2.1 q) ⟨q2, by simp only [k3, k4]; rfl, k5⟩ (fun i' hi' => hin i' (List.mem_cons_of_mem _ hi'))
      have m1 : (nxt A S q3 && A.2.1 st2.2.1 q3) = true := m1
      rw [Bool.and_eq_true] at m1
      obtain ⟨p3, n1, n2, n3⟩ := nxt_iff.mp m1.1
      exact ⟨p3, n2, st2, hin i List.mem_cons_self st2 k1, k2, q3, n3, m1.2, m2⟩
/-- how far it is, if at all -/
noncomputable def farO (L : SL) (A : AE) (u v : Nat) : Option Nat := @dite _ (∃ n, Lev L A v n u 0) (Classical.propDecidable _) (fun h => some h.choose) (fun _ => none)
theorem farO_so {L : SL} {A : AE} {u v n : Nat} (h : Lev L A v n u 0) : farO L A u v = some n := by
  unfold farO
  have hex : ∃ n, Lev L A v n u 0 := ⟨n, h⟩
  rw [dif_pos hex]
  have h2 := hex.choose_spec
  congr 1
  rcases Nat.lt_trichotomy hex.choose n with g | g | g
  · exact absurd h2.1 (h.2 _ g)
  · exact g
  · exact absurd h.1 (h2.2 _ g)
theorem farO_no {L : SL} {A : AE} {u v : Nat} (h : ∀ m, ¬ Bk L A v m u 0) : farO L A u v = none := by
  unfold farO
  rw [dif_neg]
  rintro ⟨n, hn⟩
  exact h n hn.1
def rtA (a : AS) (x u v : Int32) (f : AE → Nat → Nat → Rs) : Rs := match rn 4 x with
  | none => rfA (-2) a
  | some x => match rn 10 u with
    | none => rfA (-2) a
    | some u => match rn 10 v with
      | none => rfA (-2) a
      | some v => match aX a x with
        | none => rfA (-3) a
        | some A => f A u v
theorem rtA_bad {a : AS} {x u v : Int32} {f : AE → Nat → Nat → Rs} (h : ¬ ((∃ i, i < 4 ∧ x = nI i) ∧ (∃ j, j < 10 ∧ u = nI j) ∧ ∃ k, k < 10 ∧ v = nI k)) : rtA a x u v f = rfA (-2) a := by
  unfold rtA
  by_cases h1 : ∃ i, i < 4 ∧ x = nI i
  · obtain ⟨i, hi, rfl⟩ := id h1
    rw [rn_so hi (by decide)]
    dsimp only
    by_cases h2 : ∃ j, j < 10 ∧ u = nI j
    · obtain ⟨j, hj, rfl⟩ := id h2
      rw [rn_so hj (by decide)]
      dsimp only
      rw [rn_no (by decide) (fun h3 => h ⟨h1, h2, h3⟩)]
    · rw [rn_no (by decide) h2]
  · rw [rn_no (by decide) h1]
theorem rtA_ok {a : AS} {i j k : Nat} (hi : i < 4) (hj : j < 10) (hk : k < 10) (f : AE → Nat → Nat → Rs) : rtA a (nI i) (nI j) (nI k) f = match aX a i with
    | none => rfA (-3) a
    | some A => f A j k := by
  unfold rtA
  rw [rn_so hi (by decide)]
  dsimp only
  rw [rn_so hj (by decide)]
  dsimp only
  rw [rn_so hk (by decide)]
abbrev aS (a : AS) : SL := stL (aG a) none
noncomputable def ansA (a : AS) (x u v : Int32) : Rs := rtA a x u v (fun A u v => ((if ansB (aS a) A u v = true then 1 else 0), a))
noncomputable def endA (a : AS) (x u : Int32) : Rs := rtA a x u 0 (fun A u _ => (vb (ansB (aS a) A u) 10, a))
noncomputable def paiA (a : AS) (x : Int32) : Rs := rtA a x 0 0 (fun A _ _ => (anI (aS a) A, a))
noncomputable def farA (a : AS) (x u v : Int32) : Rs := rtA a x u v (fun A u v => (wI (farO (aS a) A u v), a))
def couA (a : AS) (x u v n : Int32) : Rs := match rn 13 n with
  | none => rfA (-2) a
  | some n => rtA a x u v (fun A u v => orA (rouI A (aS a) u v n) a)
noncomputable def rouV (L : SL) (A : AE) (u v k w : Nat) : Int32 := match farO L A u v with
  | none => -1
  | some n => match (gp L A v n u δ0)[k]? with
    | none => -1
    | some i => match L[i]? with
      | none => -1
      | some st => if w = 0 then nI st.2.2.2 else if w = 1 then nI (st.2.1 / 4) else nI st.2.2.1
noncomputable def rouA (a : AS) (x u v k w : Int32) : Rs := if k < 0 then rfA (-2) a else match rn 3 w with
  | none => rfA (-2) a
  | some w => rtA a x u v (fun A u v => (rouV (aS a) A u v k.toNatClampNeg w, a))
noncomputable def brI (G : Gr) (A : AE) (u v : Nat) : Int32 := match farO (stL G none) A u v with
  | none => -1
  | some _ => wI ((List.range G.length).find? (fun e => !ansB (stL G (some e)) A u v))
noncomputable def briA (a : AS) (x u v : Int32) : Rs := rtA a x u v (fun A u v => (brI (aG a) A u v, a))
section ClRoutes
variable {τ : Ty} {Q : Option Value → Ty → Prop} {a : AS}
theorem answers_spec {x u v : Int32} (hC : CIs τ a) (h : ∀ τ', OffC τ τ' → CIs τ' (ansA a x u v).2 → Q (some (.int (ansA a x u v).1)) τ') : RT mX10_answers none 0 [some (.ref 0), some (.int x), some (.int u), some (.int v), none] [] τ Q := by
  have no : ∀ r, (r = -2 ∨ r = -3 ∨ r = -4) → ansA a x u v = rfA r a → RT mX10_answers none 7 [some (.ref 0), some (.int x), some (.int u), some (.int v), none] [.int r] τ Q := by
    intro r hr e
    rw [e] at h
    refine rt_run 2 rfl ?_
    refine rt_if_eq rfl (fun hc => by rcases hr with rfl | rfl | rfl <;> exact absurd hc (by decide)) (fun _ => ?_)
    refine rt_run 2 rfl ?_
    refine rt_cV (ci := 10) mX10_refuse kX10_answers_17 okX10_refuse rfl rfl rfl rfl rfl ?_
    exact refuse_spec hC hr (fun τ' hO hC' => rt_iret rfl rfl (h τ' hO hC'))
  refine rt_run 4 rfl ?_
  refine rt_cV (ci := 10) mX10_refusalOf kX10_answers_4 okX10_refusalOf rfl rfl rfl rfl rfl ?_
  refine refusalOf_spec hC (fun hb => no _ (Or.inl rfl) (rtA_bad hb)) (fun i j k hi hj hk e1 e2 e3 hA => ?_) (fun i j k A hi hj hk e1 e2 e3 hA hE => ?_)
  · subst e1; subst e2; subst e3
    exact no _ (Or.inr (Or.inl rfl)) (by unfold ansA; rw [rtA_ok hi hj hk, hA])
  · subst e1; subst e2; subst e3
    have eA : ansA a (nI i) (nI j) (nI k) = ((if ansB (aS a) A j k = true then 1 else 0), a) := by unfold ansA; rw [rtA_ok hi hj hk, hA]
    rw [eA] at h
    refine rt_run 2 rfl ?_
    refine rt_if_eq rfl (fun _ => ?_) (fun hc => absurd rfl hc)
    refine rt_run 5 rfl ?_
    refine rt_aald rfl hi ?_
    refine rt_run 3 rfl ?_
    refine rt_cV (ci := 3) mX3_endsFrom kX10_answers_36 okX3_endsFrom rfl rfl rfl rfl rfl ?_
    refine endsFrom_spec (isE_x hi) (Or.inl rfl) hE hC.2.1 (hC.1.ok _) hj (fun τ1 hO1 => ?_)
    refine rt_run 4 rfl ?_
    have hb : bt (vb (ansB (aS a) A j) 10) k = ansB (aS a) A j k := by
      rw [vb_bt _ _ (by omega) (by omega)]; simp [hk]
    rw [b_t1 (by omega), hb]
    exact rt_iret rfl rfl (h τ1 (hO1.c (by decide)) (hC.scr (hO1.w.up (by decide)) (hC.2.2.2.2.2.1.eq hO1.2)))
theorem ends_spec {x u : Int32} (hC : CIs τ a) (h : ∀ τ', OffC τ τ' → CIs τ' (endA a x u).2 → Q (some (.int (endA a x u).1)) τ') : RT mX10_ends none 0 [some (.ref 0), some (.int x), some (.int u), none] [] τ Q := by
  have no : ∀ r, (r = -2 ∨ r = -3 ∨ r = -4) → endA a x u = rfA r a → RT mX10_ends none 7 [some (.ref 0), some (.int x), some (.int u), none] [.int r] τ Q := by
    intro r hr e
    rw [e] at h
    refine rt_run 2 rfl ?_
    refine rt_if_eq rfl (fun hc => by rcases hr with rfl | rfl | rfl <;> exact absurd hc (by decide)) (fun _ => ?_)
    refine rt_run 2 rfl ?_
    refine rt_cV (ci := 10) mX10_refuse kX10_ends_14 okX10_refuse rfl rfl rfl rfl rfl ?_
    exact refuse_spec hC hr (fun τ' hO hC' => rt_iret rfl rfl (h τ' hO hC'))
  refine rt_run 4 rfl ?_
  refine rt_cV (ci := 10) mX10_refusalOf kX10_ends_4 okX10_refusalOf rfl rfl rfl rfl rfl ?_
  refine refusalOf_spec hC (fun hb => no _ (Or.inl rfl) (rtA_bad (fun g => hb ⟨g.1, g.2.1, g.2.1⟩))) (fun i j k hi hj hk e1 e2 e3 hA => ?_) (fun i j k A hi hj hk e1 e2 e3 hA hE => ?_)
  · subst e1; subst e2
    exact no _ (Or.inr (Or.inl rfl)) (by unfold endA; rw [show (0 : Int32) = nI 0 from rfl, rtA_ok hi hj (by decide), hA])
  · subst e1; subst e2
    have eA : endA a (nI i) (nI j) = (vb (ansB (aS a) A j) 10, a) := by unfold endA; rw [show (0 : Int32) = nI 0 from rfl, rtA_ok hi hj (by decide), hA]
    rw [eA] at h
    refine rt_run 2 rfl ?_
    refine rt_if_eq rfl (fun _ => ?_) (fun hc => absurd rfl hc)
    refine rt_run 5 rfl ?_
    refine rt_aald rfl hi ?_
    refine rt_run 3 rfl ?_
    refine rt_cV (ci := 3) mX3_endsFrom kX10_ends_33 okX3_endsFrom rfl rfl rfl rfl rfl ?_
    refine endsFrom_spec (isE_x hi) (Or.inl rfl) hE hC.2.1 (hC.1.ok _) hj (fun τ1 hO1 => ?_)
    exact rt_iret rfl rfl (h τ1 (hO1.c (by decide)) (hC.scr (hO1.w.up (by decide)) (hC.2.2.2.2.2.1.eq hO1.2)))
theorem pairs_spec {x : Int32} (hC : CIs τ a) (h : ∀ τ', OffC τ τ' → CIs τ' (paiA a x).2 → Q (some (.int (paiA a x).1)) τ') : RT mX10_pairs none 0 [some (.ref 0), some (.int x), none] [] τ Q := by
  have no : ∀ r, (r = -2 ∨ r = -3 ∨ r = -4) → paiA a x = rfA r a → RT mX10_pairs none 7 [some (.ref 0), some (.int x), none] [.int r] τ Q := by
    intro r hr e
    rw [e] at h
    refine rt_run 2 rfl ?_
    refine rt_if_eq rfl (fun hc => by rcases hr with rfl | rfl | rfl <;> exact absurd hc (by decide)) (fun _ => ?_)
    refine rt_run 2 rfl ?_
    refine rt_cV (ci := 10) mX10_refuse kX10_pairs_14 okX10_refuse rfl rfl rfl rfl rfl ?_
    exact refuse_spec hC hr (fun τ' hO hC' => rt_iret rfl rfl (h τ' hO hC'))
  refine rt_run 4 rfl ?_
  refine rt_cV (ci := 10) mX10_refusalOf kX10_pairs_4 okX10_refusalOf rfl rfl rfl rfl rfl ?_
  refine refusalOf_spec hC (fun hb => no _ (Or.inl rfl) (rtA_bad hb)) (fun i j k hi hj hk e1 e2 e3 hA => ?_) (fun i j k A hi hj hk e1 e2 e3 hA hE => ?_)
  · subst e1
    exact no _ (Or.inr (Or.inl rfl)) (by unfold paiA; rw [show (0 : Int32) = nI 0 from rfl, rtA_ok hi (by decide) (by decide), hA])
  · subst e1
    have eA : paiA a (nI i) = (anI (aS a) A, a) := by unfold paiA; rw [show (0 : Int32) = nI 0 from rfl, rtA_ok hi (by decide) (by decide), hA]
    rw [eA] at h
    refine rt_run 2 rfl ?_
    refine rt_if_eq rfl (fun _ => ?_) (fun hc => absurd rfl hc)
    refine rt_run 4 rfl ?_
    refine rt_aald rfl hi ?_
    refine rt_cV (ci := 10) mX10_answersOf kX10_pairs_25 okX10_answersOf rfl rfl rfl rfl rfl ?_
    refine answersOf_spec (isE_x hi) hE hC.2.1 (hC.1.ok _) (fun τ1 hO1 => ?_)
    exact rt_iret rfl rfl (h τ1 (hO1.c (by decide)) (hC.scr (hO1.w.up (by decide)) (hC.2.2.2.2.2.1.eq hO1.2)))
theorem far_spec {x u v : Int32} (hC : CIs τ a) (h : ∀ τ', OffC τ τ' → CIs τ' (farA a x u v).2 → Q (some (.int (farA a x u v).1)) τ') : RT mX10_far none 0 [some (.ref 0), some (.int x), some (.int u), some (.int v), none] [] τ Q := by
  have no : ∀ r, (r = -2 ∨ r = -3 ∨ r = -4) → farA a x u v = rfA r a → RT mX10_far none 7 [some (.ref 0), some (.int x), some (.int u), some (.int v), none] [.int r] τ Q := by
    intro r hr e
    rw [e] at h
    refine rt_run 2 rfl ?_
    refine rt_if_eq rfl (fun hc => by rcases hr with rfl | rfl | rfl <;> exact absurd hc (by decide)) (fun _ => ?_)
    refine rt_run 2 rfl ?_
    refine rt_cV (ci := 10) mX10_refuse kX10_far_17 okX10_refuse rfl rfl rfl rfl rfl ?_
    exact refuse_spec hC hr (fun τ' hO hC' => rt_iret rfl rfl (h τ' hO hC'))
  refine rt_run 4 rfl ?_
  refine rt_cV (ci := 10) mX10_refusalOf kX10_far_4 okX10_refusalOf rfl rfl rfl rfl rfl ?_
  refine refusalOf_spec hC (fun hb => no _ (Or.inl rfl) (rtA_bad hb)) (fun i j k hi hj hk e1 e2 e3 hA => ?_) (fun i j k A hi hj hk e1 e2 e3 hA hE => ?_)
  · subst e1; subst e2; subst e3
    exact no _ (Or.inr (Or.inl rfl)) (by unfold farA; rw [rtA_ok hi hj hk, hA])
  · subst e1; subst e2; subst e3
    have eA : farA a (nI i) (nI j) (nI k) = (wI (farO (aS a) A j k), a) := by unfold farA; rw [rtA_ok hi hj hk, hA]
    rw [eA] at h
    refine rt_run 2 rfl ?_
    refine rt_if_eq rfl (fun _ => ?_) (fun hc => absurd rfl hc)
    refine rt_run 5 rfl ?_
    refine rt_aald rfl hi ?_
    refine rt_run 4 rfl ?_
    refine rt_cV (ci := 5) mX5_lengthOf kX10_far_37 okX5_lengthOf rfl rfl rfl rfl rfl ?_
    refine lengthOf_spec (isE_x hi) (Or.inl rfl) hE hC.2.1 (hC.1.ok _) hj hk (fun τ1 n hO1 hn hlev _ => ?_) (fun τ1 hO1 hno => ?_)
    · rw [farO_so hlev] at h
      exact rt_iret rfl rfl (h τ1 (hO1.c (by decide)) (hC.scr (hO1.w.up (by decide)) (hC.2.2.2.2.2.1.eq hO1.2)))
    · rw [farO_no hno] at h
      exact rt_iret rfl rfl (h τ1 (hO1.c (by decide)) (hC.scr (hO1.w.up (by decide)) (hC.2.2.2.2.2.1.eq hO1.2)))
theorem count_spec {x u v n : Int32} (hC : CIs τ a) (h : ∀ τ', OffC τ τ' → CIs τ' (couA a x u v n).2 → Q (some (.int (couA a x u v n).1)) τ') : RT mX10_count none 0 [some (.ref 0), some (.int x), some (.int u), some (.int v), some (.int n), none] [] τ Q := by
  have no : ∀ r, (r = -2 ∨ r = -3 ∨ r = -4) → couA a x u v n = rfA r a → RT mX10_count none 24 [some (.ref 0), some (.int x), some (.int u), some (.int v), some (.int n), none] [.int r] τ Q := by
    intro r hr e
    rw [e] at h
    refine rt_run 2 rfl ?_
    refine rt_if_eq rfl (fun hc => by rcases hr with rfl | rfl | rfl <;> exact absurd hc (by decide)) (fun _ => ?_)
    refine rt_run 2 rfl ?_
    refine rt_cV (ci := 10) mX10_refuse kX10_count_34 okX10_refuse rfl rfl rfl rfl rfl ?_
    exact refuse_spec hC hr (fun τ' hO hC' => rt_iret rfl rfl (h τ' hO hC'))
  have bad : rn 13 n = none → RT mX10_count none 12 [some (.ref 0), some (.int x), some (.int u), some (.int v), some (.int n), none] [] τ Q := by
    intro e
    refine rt_run 2 rfl ?_
    exact no _ (Or.inl rfl) (by unfold couA; rw [e])
  refine rt_run 1 rfl ?_
  refine rt_if_lt rfl (fun hc => bad (rn_out (Or.inl hc))) (fun hc => ?_)
  refine rt_run 2 rfl ?_
  rcases pk_ix n (n := 13) (by decide) with g | g | ⟨n', hn, en⟩
  · exact absurd g hc
  · exact rt_ic_le rfl (fun hd => absurd hd (le_no (n := 12) (by decide) g)) (fun hd => bad (rn_out (Or.inr g)))
  subst en
  refine rt_le n' 12 rfl (by omega) (by omega) (fun _ => ?_) (fun _ => by omega)
  have e0 : couA a x u v (nI n') = rtA a x u v (fun A u v => orA (rouI A (aS a) u v n') a) := by unfold couA; rw [rn_so hn (by decide)]
  rw [e0] at h no
  refine rt_run 4 rfl ?_
  refine rt_cV (ci := 10) mX10_refusalOf kX10_count_21 okX10_refusalOf rfl rfl rfl rfl rfl ?_
  refine refusalOf_spec hC (fun hb => no _ (Or.inl rfl) (rtA_bad hb)) (fun i j k hi hj hk e1 e2 e3 hA => ?_) (fun i j k A hi hj hk e1 e2 e3 hA hE => ?_)
  · subst e1; subst e2; subst e3
    exact no _ (Or.inr (Or.inl rfl)) (by rw [rtA_ok hi hj hk, hA])
  · subst e1; subst e2; subst e3
    rw [rtA_ok hi hj hk, hA] at h
    dsimp only at h
    obtain ⟨wa, wb, hw1, hw2⟩ := hC.2.2.2.2.2.1
    refine rt_run 2 rfl ?_
    refine rt_if_eq rfl (fun _ => ?_) (fun hc => absurd rfl hc)
    refine rt_run 6 rfl ?_
    refine rt_aald rfl hi ?_
    refine rt_run 5 rfl ?_
    refine rt_cV (ci := 9) mX9_routesOf kX10_count_57 okX9_routesOf rfl rfl rfl rfl rfl ?_
    refine routesOf_spec hw1 hw2 (isE_x hi) (Or.inl rfl) hE hC.2.1 (hC.1.ok _) hj hk (by omega) (fun τ1 wa' wb' hO1 hw1' hw2' => ?_)
    refine rt_cV (ci := 10) mX10_orRefused kX10_count_60 okX10_orRefused rfl rfl rfl rfl rfl ?_
    refine orRefused_spec (a := a) (hC.scr (hO1.up (by decide)) ⟨wa', wb', hw1', hw2'⟩) (fun τ2 hO2 hC2 => ?_)
    exact rt_iret rfl rfl (h τ2 ((hO1.c (by decide)).tr hO2) hC2)
theorem route_spec {x u v k w : Int32} (hC : CIs τ a) (h : ∀ τ', OffC τ τ' → CIs τ' (rouA a x u v k w).2 → Q (some (.int (rouA a x u v k w).1)) τ') : RT mX10_route none 0 [some (.ref 0), some (.int x), some (.int u), some (.int v), some (.int k), some (.int w), none, none, none] [] τ Q := by
  have no : ∀ r, (r = -2 ∨ r = -3 ∨ r = -4) → rouA a x u v k w = rfA r a → RT mX10_route none 28 [some (.ref 0), some (.int x), some (.int u), some (.int v), some (.int k), some (.int w), none, none, none] [.int r] τ Q := by
    intro r hr e
    rw [e] at h
    refine rt_run 2 rfl ?_
    refine rt_if_eq rfl (fun hc => by rcases hr with rfl | rfl | rfl <;> exact absurd hc (by decide)) (fun _ => ?_)
    refine rt_run 2 rfl ?_
    refine rt_cV (ci := 10) mX10_refuse kX10_route_38 okX10_refuse rfl rfl rfl rfl rfl ?_
    exact refuse_spec hC hr (fun τ' hO hC' => rt_iret rfl rfl (h τ' hO hC'))
  have bad : rouA a x u v k w = rfA (-2) a → RT mX10_route none 16 [some (.ref 0), some (.int x), some (.int u), some (.int v), some (.int k), some (.int w), none, none, none] [] τ Q := by
    intro e
    refine rt_run 2 rfl ?_
    exact no _ (Or.inl rfl) e
  refine rt_run 1 rfl ?_
  refine rt_if_lt rfl (fun hc => bad (by unfold rouA; rw [if_pos hc])) (fun hk0 => ?_)
  obtain ⟨k', hk', ek⟩ := nI_of hk0
  have rl : rn 3 w = none → rouA a x u v k w = rfA (-2) a := fun e => by unfold rouA; rw [if_neg hk0, e]
  refine rt_run 1 rfl ?_
  refine rt_if_lt rfl (fun hc => bad (rl (rn_out (Or.inl hc)))) (fun hc => ?_)
  refine rt_run 2 rfl ?_
  rcases pk_ix w (n := 3) (by decide) with g | g | ⟨w', hw, ew⟩
  · exact absurd g hc
  · exact rt_ic_le rfl (fun hd => absurd hd (le_no (n := 2) (by decide) g)) (fun hd => bad (rl (rn_out (Or.inr g))))
  subst ew
  refine rt_le w' 2 rfl (by omega) (by omega) (fun _ => ?_) (fun _ => by omega)
  subst ek
  have e0 : rouA a x u v (nI k') (nI w') = rtA a x u v (fun A u v => (rouV (aS a) A u v k' w', a)) := by
    unfold rouA; rw [if_neg hk0, rn_so hw (by decide), nI_clamp hk']
  rw [e0] at h no
  refine rt_run 4 rfl ?_
  refine rt_cV (ci := 10) mX10_refusalOf kX10_route_25 okX10_refusalOf rfl rfl rfl rfl rfl ?_
  refine refusalOf_spec hC (fun hb => no _ (Or.inl rfl) (rtA_bad hb)) (fun i j l hi hj hl e1 e2 e3 hA => ?_) (fun i j l A hi hj hl e1 e2 e3 hA hE => ?_)
  · subst e1; subst e2; subst e3
    exact no _ (Or.inr (Or.inl rfl)) (by rw [rtA_ok hi hj hl, hA])
  · subst e1; subst e2; subst e3
    rw [rtA_ok hi hj hl, hA] at h
    dsimp only at h
    have hL := hC.1.ok none
    refine rt_run 2 rfl ?_
    refine rt_if_eq rfl (fun _ => ?_) (fun hc => absurd rfl hc)
    refine rt_run 5 rfl ?_
    refine rt_aald rfl hi ?_
    refine rt_run 4 rfl ?_
    refine rt_cV (ci := 5) mX5_trace kX10_route_58 okX5_trace rfl rfl rfl rfl rfl ?_
    refine trace_spec (isE_x hi) (Or.inl rfl) hE hC.2.1 hL hj hl (fun τ1 n hO1 hn hlev hlen hpath => ?_) (fun τ1 hO1 hno => ?_)
    · have hC1 : CIs τ1 a := hC.scr (hO1.w.up (by decide)) (hC.2.2.2.2.2.1.eq hO1.2)
      have hfin : Q (some (.int (rouV (stL (aG a) none) A j l k' w'))) τ1 := h τ1 (hO1.c (by decide)) hC1
      unfold rouV at hfin
      rw [farO_so hlev] at hfin
      dsimp only at hfin
      refine rt_run 3 rfl ?_
      refine rt_lt k' n rfl (by omega) (by omega) (fun hlt => ?_) (fun hge => ?_)
      · have hgk : (gp (stL (aG a) none) A l n j δ0)[k']? = some (gp (stL (aG a) none) A l n j δ0)[k'] := List.getElem?_eq_getElem (by omega)
        obtain ⟨p1, p2⟩ := hpath k' _ hgk
        rw [hgk] at hfin
        dsimp only at hfin
        generalize (gp (stL (aG a) none) A l n j δ0)[k'] = s at p1 p2 hfin
        have hls : (stL (aG a) none)[s]? = some (stL (aG a) none)[s] := List.getElem?_eq_getElem p2
        rw [hls] at hfin
        dsimp only at hfin
        obtain ⟨g1, g2, g3, g4⟩ := hC1.2.1.2 s _ hls
        obtain ⟨c1, c2, c3⟩ := hL.2 _ (List.getElem_mem p2)
        have h60 := hL.1
        refine rt_run 4 rfl ?_
        refine rt_ld k' rfl (n := 250) rfl (by omega) ?_
        rw [p1]
        refine rt_run 2 rfl ?_
        refine rt_if_ne rfl (fun hw0 => ?_) (fun hw0 => ?_)
        · have : w' ≠ 0 := fun e => hw0 (by rw [e]; rfl)
          rw [if_neg this] at hfin
          refine rt_run 2 rfl ?_
          refine rt_ne w' 1 rfl (by omega) (by omega) (fun hw1 => ?_) (fun hw1 => ?_)
          · rw [if_neg hw1] at hfin
            refine rt_run 4 rfl ?_
            refine rt_ld s rfl (n := 60) rfl (by omega) ?_
            rw [g3]
            exact rt_iret rfl rfl hfin
          · rw [if_pos hw1] at hfin
            refine rt_run 4 rfl ?_
            refine rt_ld s rfl (n := 60) rfl (by omega) ?_
            rw [g2]
            refine rt_run 1 rfl ?_
            refine rt_idiv rfl (by decide) ?_
            rw [show nI (stL (aG a) none)[s].2.1 / 4 = nI ((stL (aG a) none)[s].2.1 / 4) from pk_div (d := 4) (by omega) (by decide) (by decide)]
            refine rt_run 1 rfl ?_
            exact rt_iret rfl rfl hfin
        · have : w' = 0 := by
            by_cases hz : w' = 0
            · exact hz
            · exact absurd hw0 (nI_ne0 (by omega) (by omega))
          rw [if_pos this] at hfin
          refine rt_run 4 rfl ?_
          refine rt_ld s rfl (n := 60) rfl (by omega) ?_
          rw [g4]
          exact rt_iret rfl rfl hfin
      · rw [List.getElem?_eq_none (by omega)] at hfin
        refine rt_run 1 rfl ?_
        exact rt_iret rfl rfl hfin
    · have hC1 : CIs τ1 a := hC.scr (hO1.w.up (by decide)) (hC.2.2.2.2.2.1.eq hO1.2)
      have hfin : Q (some (.int (rouV (stL (aG a) none) A j l k' w'))) τ1 := h τ1 (hO1.c (by decide)) hC1
      unfold rouV at hfin
      rw [farO_no hno] at hfin
      refine rt_run 3 rfl ?_
      refine rt_ic_lt rfl (fun hc => ?_) (fun _ => ?_)
      · exfalso
        rw [Int32.lt_iff_toInt_lt, nI_toInt hk'] at hc
        have : (-1 : Int32).toInt = -1 := by decide
        omega
      · refine rt_run 1 rfl ?_
        exact rt_iret rfl rfl hfin
end ClRoutes
end
section
/-! the class's bridge, stand, standing, kept, draw, told, digest -/
def sWh (a : AS) (w : Option Nat) : AS := (a.1, a.2.1, a.2.2.1, w, 0, 0, a.2.2.2.2.2.2)
noncomputable def staA (a : AS) (x : Int32) : Rs := if x = -1 then (szI (sWh a none), sWh a none) else match rn 4 x with
  | none => rfA (-2) a
  | some x => match aX a x with
    | none => rfA (-3) a
    | some _ => (szI (sWh a (some x)), sWh a (some x))
noncomputable def stdV (a : AS) (w : Nat) : Int32 := if w = 0 then wI (aW a) else if w = 1 then szI a else if w = 2 then aC a else aLo a
noncomputable def stdA (a : AS) (w : Int32) : Rs := match rn 4 w with
  | none => rfA (-2) a
  | some w => (stdV a w, a)
noncomputable def kepA (a : AS) (u v : Int32) : Rs := match rn 10 u with
  | none => rfA (-2) a
  | some u => match rn 10 v with
    | none => rfA (-2) a
    | some v => match aW a with
      | none => rfA (-3) a
      | some _ => ((if bt (rowI (aG a) (aX a) (aW a) u) v = true then 1 else 0), a)
def drS (x : Nat) : Nat := (x * 1103515245 + 12345) % 2147483648
def drQ (x : Nat) : Nat × Nat × Nat := (x / 65536 % 10, x / 1024 % 4, x / 4096 % 10)
def drN (s : Nat) : Nat → Nat × Gr
  | 0 => (s, [])
  | k + 1 => (drS (drN s k).1, if drQ (drS (drN s k).1) ∈ (drN s k).2 then (drN s k).2 else (drN s k).2 ++ [drQ (drS (drN s k).1)])
theorem drN_len (s k : Nat) : (drN s k).2.length ≤ k := by
  induction k with
  | zero => simp [drN]
  | succ k ih =>
    unfold drN
    dsimp only
    split
    · omega
    · rw [List.length_append]
      simp
      exact ih
def drwA (a : AS) (s n : Int32) : Rs := match rn 1000000 s with
  | none => rfA (-2) a
  | some s => match rn 31 n with
    | none => rfA (-2) a
    | some n => (nI (drN s n).2.length, sG a (drN s n).2)
def tolV (a : AS) (w : Nat) : Int32 := if w = 0 then aB a else if w = 1 then aN a else if w = 2 then aF a else if w = 3 then nI (aT a).length else if w = 4 then nI (aG a).length else if w = 5 then smI (plI (aX a)) 4 else wI (aW a)
def tolA (a : AS) (w : Int32) : Rs := match rn 7 w with
  | none => rfA (-2) a
  | some w => (tolV a w, a)
def hR (f : Nat → Int32) : Nat → Int64 → Int64
  | 0, h => h
  | k + 1, h => 31 * hR f k h + (f k).toInt64
noncomputable def exV (a : AS) (x : Nat) : Int32 := match aX a x with
  | none => -1
  | some A => anI (aS a) A
noncomputable def digI (a : AS) : Int64 := hR (fun j => stdV a (j + 1)) 3 (hR (exV a) 4 (hR (fun j => ofV (aG a) (j / 3) (j % 3)) (3 * (aG a).length) (hR (tolV a) 7 1931)))
section ClRest
variable {τ : Ty} {Q : Option Value → Ty → Prop} {a : AS}
theorem bridge_spec {x u v : Int32} (hC : CIs τ a) (h : ∀ τ', OffC τ τ' → CIs τ' (briA a x u v).2 → Q (some (.int (briA a x u v).1)) τ') : RT mX10_bridge none 0 [some (.ref 0), some (.int x), some (.int u), some (.int v), none, none, none, none] [] τ Q := by
  have no : ∀ r, (r = -2 ∨ r = -3 ∨ r = -4) → briA a x u v = rfA r a → RT mX10_bridge none 7 [some (.ref 0), some (.int x), some (.int u), some (.int v), none, none, none, none] [.int r] τ Q := by
    intro r hr e
    rw [e] at h
    refine rt_run 2 rfl ?_
    refine rt_if_eq rfl (fun hc => by rcases hr with rfl | rfl | rfl <;> exact absurd hc (by decide)) (fun _ => ?_)
    refine rt_run 2 rfl ?_
    refine rt_cV (ci := 10) mX10_refuse kX10_bridge_17 okX10_refuse rfl rfl rfl rfl rfl ?_
    exact refuse_spec hC hr (fun τ' hO hC' => rt_iret rfl rfl (h τ' hO hC'))
  refine rt_run 4 rfl ?_
  refine rt_cV (ci := 10) mX10_refusalOf kX10_bridge_4 okX10_refusalOf rfl rfl rfl rfl rfl ?_
  refine refusalOf_spec hC (fun hb => no _ (Or.inl rfl) (rtA_bad hb)) (fun i j k hi hj hk e1 e2 e3 hA => ?_) (fun i j k A hi hj hk e1 e2 e3 hA hE => ?_)
  · subst e1; subst e2; subst e3
    exact no _ (Or.inr (Or.inl rfl)) (by unfold briA; rw [rtA_ok hi hj hk, hA])
  subst e1; subst e2; subst e3
  have eA : briA a (nI i) (nI j) (nI k) = (brI (aG a) A j k, a) := by unfold briA; rw [rtA_ok hi hj hk, hA]
  rw [eA] at h
  have hL := hC.1.ok none
  have hl30 := hC.1.2.2.1
  have hAwf := hE.2.2.2.2
  have hA' := hA
  have fin : ∀ d e τ' (nd : Int32) (x5 : Int32), e + d = (aG a).length → Off kX τ τ' → (∀ e', e' < (aG a).length → bt nd e' = false → farO (stL (aG a) none) A j k ≠ none → ansB (stL (aG a) (some e')) A j k = true) → (farO (stL (aG a) none) A j k = none → nd = 0) → (∀ e', e' < e → farO (stL (aG a) none) A j k ≠ none → ansB (stL (aG a) (some e')) A j k = true) →
      RT mX10_bridge none 89 [some (.ref 0), some (.int (nI i)), some (.int (nI j)), some (.int (nI k)), some (.int 0), some (.int x5), some (.int nd), some (.int (nI e))] [] τ' Q := by
    intro d
    induction d with
    | zero =>
      intro e τ' nd x5 he hO hnd hno hpre
      have hC1 : CIs τ' a := hC.scr hO.w (hC.2.2.2.2.2.1.eq hO.2)
      have hfin : Q (some (.int (brI (aG a) A j k))) τ' := h τ' (hO.c (by decide)) hC1
      unfold brI at hfin
      refine rt_run 4 rfl ?_
      refine rt_ge e (aG a).length rfl (by omega) (by omega) (fun _ => ?_) (fun _ => by omega) rfl hC1.1.1
      refine rt_run 1 rfl ?_
      cases hf : farO (stL (aG a) none) A j k with
      | none =>
        rw [hf] at hfin
        exact rt_iret rfl rfl hfin
      | some n =>
        rw [hf] at hfin
        dsimp only at hfin
        have : (List.range (aG a).length).find? (fun e => !ansB (stL (aG a) (some e)) A j k) = none := by
          rw [List.find?_eq_none]
          intro e' he'
          have := hpre e' (by have := List.mem_range.mp he'; omega) (by rw [hf]; simp)
          simp [this]
        rw [this] at hfin
        exact rt_iret rfl rfl hfin
    | succ d ih =>
      intro e τ' nd x5 he hO hnd hno hpre
      have hC1 : CIs τ' a := hC.scr hO.w (hC.2.2.2.2.2.1.eq hO.2)
      have hE1 : ExIs τ' (51 + 3 * i) A := hE.off hO (by rcases (show i = 0 ∨ i = 1 ∨ i = 2 ∨ i = 3 by omega) with rfl | rfl | rfl | rfl <;> decide)
      refine rt_run 4 rfl ?_
      refine rt_ge e (aG a).length rfl (by omega) (by omega) (fun _ => by omega) (fun hlt => ?_) rfl hC1.1.1
      have next : ∀ τ2, Off kX τ τ2 → (farO (stL (aG a) none) A j k ≠ none → ansB (stL (aG a) (some e)) A j k = true) → RT mX10_bridge none 131 [some (.ref 0), some (.int (nI i)), some (.int (nI j)), some (.int (nI k)), some (.int 0), some (.int x5), some (.int nd), some (.int (nI e))] [] τ2 Q := by
        intro τ2 hO2 hans
        refine rt_run 2 rfl ?_
        rw [← nI_succ]
        refine ih (e + 1) τ2 nd x5 (by omega) hO2 hnd hno (fun e' he' hne => ?_)
        by_cases hee : e' = e
        · subst hee; exact hans hne
        · exact hpre e' (by omega) hne
      refine rt_run 5 rfl ?_
      refine rt_if_eq rfl (fun hz => ?_) (fun hnz => ?_)
      · exact next τ' hO (fun hne => hnd e hlt (bt_f (by omega) hz) hne)
      · have hfar : farO (stL (aG a) none) A j k ≠ none := by
          intro hf
          have := bt_t (by omega) hnz
          rw [hno hf, b_0] at this
          cases this
        refine rt_run 4 rfl ?_
        refine rt_aald rfl hi ?_
        refine rt_run 3 rfl ?_
        refine rt_cV (ci := 10) mX10_isAnswerWithout kX10_bridge_122 okX10_isAnswerWithout rfl rfl rfl rfl rfl ?_
        refine isAnswerWithout_spec (isE_x hi) hE1 hC1.1 hj hk (by omega) (fun τ2 hO2 => ?_)
        have hO3 : Off kX τ τ2 := hO.tr (hO2.up (by decide))
        have hC2 : CIs τ2 a := hC.scr hO3.w (hC.2.2.2.2.2.1.eq hO3.2)
        cases hx : ansB (stL (aG a) (some e)) A j k with
        | true =>
          refine rt_if_ne rfl (fun _ => ?_) (fun hc => absurd hc (by decide))
          exact next τ2 hO3 (fun _ => hx)
        | false =>
          refine rt_if_ne rfl (fun hc => absurd rfl hc) (fun _ => ?_)
          refine rt_run 1 rfl ?_
          have hfin : Q (some (.int (brI (aG a) A j k))) τ2 := h τ2 (hO3.c (by decide)) hC2
          unfold brI at hfin
          cases hf : farO (stL (aG a) none) A j k with
          | none => exact absurd hf hfar
          | some n =>
            rw [hf] at hfin
            dsimp only at hfin
            have : (List.range (aG a).length).find? (fun e => !ansB (stL (aG a) (some e)) A j k) = some e := by
              rw [List.find?_range_eq_some]
              refine ⟨by simp [hx], List.mem_range.mpr hlt, fun e' he' => ?_⟩
              have := hpre e' he' hfar
              simp [this]
            rw [this] at hfin
            exact rt_iret rfl rfl hfin
  refine rt_run 2 rfl ?_
  refine rt_if_eq rfl (fun _ => ?_) (fun hc => absurd rfl hc)
  refine rt_run 5 rfl ?_
  refine rt_aald rfl hi ?_
  refine rt_run 4 rfl ?_
  refine rt_cV (ci := 5) mX5_trace kX10_bridge_37 okX5_trace rfl rfl rfl rfl rfl ?_
  refine trace_spec (isE_x hi) (Or.inl rfl) hE hC.2.1 hL hj hk (fun τ1 n hO1 hn hlev hlen hpath => ?_) (fun τ1 hO1 hno => ?_)
  · have hS1 := hC.2.1.off hO1 (by decide)
    have h60 := hL.1
    have loop : ∀ d m (nd : Int32), m + d = n → (∀ m' s st, m' < m → (gp (stL (aG a) none) A k n j δ0)[m']? = some s → (stL (aG a) none)[s]? = some st → bt nd st.2.2.2 = true) → RT mX10_bridge none 48 [some (.ref 0), some (.int (nI i)), some (.int (nI j)), some (.int (nI k)), some (.int 0), some (.int (nI n)), some (.int nd), some (.int (nI m))] [] τ1 Q := by
      intro d
      induction d with
      | zero =>
        intro m nd hm hnd
        refine rt_run 2 rfl ?_
        refine rt_ge m n rfl (by omega) (by omega) (fun _ => ?_) (fun _ => by omega)
        refine rt_run 2 rfl ?_
        refine fin (aG a).length 0 τ1 nd (nI n) (by omega) (hO1.up (by decide)) (fun e' he' hb _ => ?_) (fun hf => ?_) (fun e' he' => by omega)
        · rw [ansB_iff, Ans_Bk]
          have hin : ∀ s ∈ gp (stL (aG a) none) A k n j δ0, ∀ st, (stL (aG a) none)[s]? = some st → st ∈ stL (aG a) (some e') := by
            intro s hs st hst
            obtain ⟨m', hm'⟩ := List.getElem?_of_mem hs
            have hm2 := (List.getElem?_eq_some_iff.mp hm').1
            have hbt := hnd m' s st (by omega) hm' hst
            obtain ⟨i2, q, g1, g2, g3⟩ := mem_stL.mp (List.mem_of_getElem? hst)
            refine mem_stL.mpr ⟨i2, q, g1, ?_, g3⟩
            intro he
            cases he
            have e4 : st.2.2.2 = e' := by rcases g3 with rfl | rfl <;> rfl
            rw [e4, hb] at hbt
            cases hbt
          obtain ⟨p, hp1, hp2⟩ := gp_bk hL hAwf hk n j δ0 ⟨0, rfl, hlev.1⟩ hin
          have : p = 0 := of_decide_eq_true hp1
          subst this
          exact ⟨n, hp2⟩
        · rw [farO_so hlev] at hf
          cases hf
      | succ d ih =>
        intro m nd hm hnd
        have hgk : (gp (stL (aG a) none) A k n j δ0)[m]? = some (gp (stL (aG a) none) A k n j δ0)[m] := List.getElem?_eq_getElem (by omega)
        obtain ⟨p1, p2⟩ := hpath m _ hgk
        generalize (gp (stL (aG a) none) A k n j δ0)[m] = s at p1 p2 hgk
        have hls : (stL (aG a) none)[s]? = some (stL (aG a) none)[s] := List.getElem?_eq_getElem p2
        obtain ⟨g1, g2, g3, g4⟩ := hS1.2 s _ hls
        obtain ⟨i2, q, q1, q2, q3⟩ := mem_stL.mp (List.getElem_mem p2)
        have e4 : (stL (aG a) none)[s].2.2.2 = i2 := by rcases q3 with q3 | q3 <;> rw [q3]
        have hi2 := (List.getElem?_eq_some_iff.mp q1).1
        refine rt_run 2 rfl ?_
        refine rt_ge m n rfl (by omega) (by omega) (fun _ => by omega) (fun _ => ?_)
        refine rt_run 9 rfl ?_
        refine rt_ld m rfl (n := 250) rfl (by omega) ?_
        rw [p1]
        refine rt_ld s rfl (n := 60) rfl (by omega) ?_
        rw [g4]
        refine rt_run 5 rfl ?_
        rw [← nI_succ]
        refine ih (m + 1) _ (by omega) (fun m' s' st' hm' h1 h2 => ?_)
        rw [b_or]
        by_cases hmm : m' = m
        · subst hmm
          rw [hgk] at h1
          cases h1
          rw [hls] at h2
          cases h2
          rw [b_bit (by omega) (by omega)]
          simp
        · rw [hnd m' s' st' (by omega) h1 h2]
          rfl
    refine rt_run 5 rfl ?_
    exact loop n 0 0 (by omega) (fun m' s st hm' => by omega)
  · refine rt_run 5 rfl ?_
    refine rt_run 2 rfl ?_
    refine rt_ic_ge rfl (fun _ => ?_) (fun hc => absurd (by decide) hc)
    refine rt_run 2 rfl ?_
    refine fin (aG a).length 0 τ1 0 _ (by omega) (hO1.up (by decide)) (fun e' _ _ hne => absurd (farO_no hno) hne) (fun _ => rfl) (fun e' he' => by omega)
theorem stand_spec {x : Int32} (hC : CIs τ a) (h : ∀ τ', OffC τ τ' → CIs τ' (staA a x).2 → Q (some (.int (staA a x).1)) τ') : RT mX10_stand none 0 [some (.ref 0), some (.int x)] [] τ Q := by
  have fin : ∀ w, x = wI w → (∀ y, w = some y → y < 4 ∧ (aX a y).isSome = true) → staA a x = (szI (sWh a w), sWh a w) → RT mX10_stand none 43 [some (.ref 0), some (.int x)] [] τ Q := by
    intro w hx hw e
    rw [e] at h
    refine rt_run 13 rfl ?_
    have hO : Off [49] τ (sF (sF (sF τ 49 1 x) 49 2 0) 49 3 0) := (((Off.rf _ _).sF (by simp) _ _).sF (by simp) _ _).sF (by simp) _ _
    refine rt_cV (ci := 10) mX10_keepAnswers kX10_stand_68 okX10_keepAnswers rfl rfl rfl rfl rfl ?_
    refine keepAnswers_spec (a := sWh a w) ?_ (hC.2.1.off hO (by decide)) (fun τ2 hO2 hC2 => ?_)
    · obtain ⟨c1, c3, c4, c5, c6, c7, c8⟩ := hC.one
      exact ⟨c1.offW hO.w (by decide), c3.offW hO.w (by decide), c4, c5.offW hO.w (fun k g1 g2 hin => by simp at hin; omega), c6, ⟨hx, hw, rfl, rfl⟩, c8⟩
    · refine rt_run 2 rfl ?_
      refine rt_cV (ci := 6) mX6_size kX10_stand_75 okX6_size rfl rfl rfl rfl rfl ?_
      refine size_spec hC2 ?_
      exact rt_iret rfl rfl (h τ2 ((hO.c (by decide)).tr (hO2.c (by decide))) hC2)
  refine rt_run 2 rfl ?_
  refine rt_ic_eq rfl (fun hx => ?_) (fun hx => ?_)
  · refine rt_run 2 rfl ?_
    refine rt_ic_eq rfl (fun _ => ?_) (fun hc => absurd hx hc)
    exact fin none hx (fun y hy => by cases hy) (by unfold staA; rw [if_pos hx])
  · refine rt_run 1 rfl ?_
    refine rt_cS mX10_isExpression kX10_stand_6 okX10_isExpression rfl rfl ?_
    refine isExpr_spec (fun hh => ?_) (fun x' hx' ex => ?_)
    · refine rt_if_ne rfl (fun hc => absurd rfl hc) (fun _ => ?_)
      refine rt_run 2 rfl ?_
      refine rt_cV (ci := 10) mX10_refuse kX10_stand_15 okX10_refuse rfl rfl rfl rfl rfl ?_
      unfold staA at h
      rw [if_neg hx, rn_no (by decide) hh] at h
      exact refuse_spec hC (Or.inl rfl) (fun τ' hO hC' => rt_iret rfl rfl (h τ' hO hC'))
    · subst ex
      refine rt_if_ne rfl (fun _ => ?_) (fun hc => absurd hc (by decide))
      refine rt_run 2 rfl ?_
      refine rt_ic_eq rfl (fun hc => absurd hc hx) (fun _ => ?_)
      obtain ⟨f0, f1, f2, f3, f4, a0, a1, h38⟩ := isE_f (isE_x hx')
      refine rt_run 3 rfl ?_
      refine rt_aald rfl hx' ?_
      refine rt_getI rfl f4 ?_
      have eA : staA a (nI x') = match aX a x' with
          | none => rfA (-3) a
          | some _ => (szI (sWh a (some x')), sWh a (some x')) := by
        unfold staA; rw [if_neg hx, rn_so hx' (by decide)]
      rcases hC.2.2.2.2.1.told hx' with ⟨hA, e4⟩ | ⟨A, hA, e4, hE⟩
      · rw [e4]
        refine rt_if_ne rfl (fun hc => absurd rfl hc) (fun _ => ?_)
        refine rt_run 2 rfl ?_
        refine rt_cV (ci := 10) mX10_refuse kX10_stand_39 okX10_refuse rfl rfl rfl rfl rfl ?_
        rw [eA, hA] at h
        exact refuse_spec hC (Or.inr (Or.inl rfl)) (fun τ' hO hC' => rt_iret rfl rfl (h τ' hO hC'))
      · rw [e4]
        refine rt_if_ne rfl (fun _ => ?_) (fun hc => absurd hc (by decide))
        exact fin (some x') rfl (fun y hy => by cases hy; exact ⟨hx', by rw [hA]; rfl⟩) (by rw [eA, hA])
theorem std_ok {w : Nat} (hC : CIs τ a) (hw : w < 4) (h : Q (some (.int (stdV a w))) τ) : RT mX10_standing none 0 [some (.ref 0), some (.int (nI w))] [] τ Q := by
  refine rt_run 1 rfl ?_
  obtain ⟨s1, s2, s3, s4, s5⟩ := hC.2.2.2.2.2.2.1
  rcases (show w = 0 ∨ w = 1 ∨ w = 2 ∨ w = 3 by omega) with rfl | rfl | rfl | rfl
  · refine rt_tsIn (off := 31) (tgt := 32) rfl (by decide) (by decide) rfl (by decide) ?_
    refine rt_run 3 rfl ?_
    rw [s1]
    exact rt_iret rfl rfl h
  · refine rt_tsIn (off := 39) (tgt := 40) rfl (by decide) (by decide) rfl (by decide) ?_
    refine rt_run 2 rfl ?_
    refine rt_cV (ci := 6) mX6_size kX10_standing_44 okX6_size rfl rfl rfl rfl rfl ?_
    refine size_spec hC ?_
    exact rt_iret rfl rfl h
  · refine rt_tsIn (off := 47) (tgt := 48) rfl (by decide) (by decide) rfl (by decide) ?_
    refine rt_run 3 rfl ?_
    rw [s3]
    exact rt_iret rfl rfl h
  · refine rt_tsIn (off := 55) (tgt := 56) rfl (by decide) (by decide) rfl (by decide) ?_
    refine rt_run 3 rfl ?_
    rw [s4]
    exact rt_iret rfl rfl h
theorem standing_spec {w : Int32} (hC : CIs τ a) (h : ∀ τ', OffC τ τ' → CIs τ' (stdA a w).2 → Q (some (.int (stdA a w).1)) τ') : RT mX10_standing none 0 [some (.ref 0), some (.int w)] [] τ Q := by
  have out : (w.toInt < 0 ∨ 3 < w.toInt) → rn 4 w = none → RT mX10_standing none 0 [some (.ref 0), some (.int w)] [] τ Q := by
    intro h1 h2
    refine rt_run 1 rfl ?_
    refine rt_tsOut (tgt := 64) rfl h1 (by decide) ?_
    refine rt_run 2 rfl ?_
    refine rt_cV (ci := 10) mX10_refuse kX10_standing_67 okX10_refuse rfl rfl rfl rfl rfl ?_
    unfold stdA at h
    rw [h2] at h
    exact refuse_spec hC (Or.inl rfl) (fun τ' hO hC' => rt_iret rfl rfl (h τ' hO hC'))
  rcases pk_ix w (n := 4) (by decide) with g | g | ⟨w', hw, ew⟩
  · refine out (Or.inl ?_) (rn_out (Or.inl g))
    rw [Int32.lt_iff_toInt_lt] at g
    exact g
  · refine out (Or.inr ?_) (rn_out (Or.inr g))
    rw [Int32.le_iff_toInt_le] at g
    have : (nI 4).toInt = 4 := by decide
    omega
  · subst ew
    refine std_ok hC hw ?_
    unfold stdA at h
    rw [rn_so hw (by decide)] at h
    exact h τ (OffC.rf _) hC
theorem kept_spec {u v : Int32} (hC : CIs τ a) (h : ∀ τ', OffC τ τ' → CIs τ' (kepA a u v).2 → Q (some (.int (kepA a u v).1)) τ') : RT mX10_kept none 0 [some (.ref 0), some (.int u), some (.int v)] [] τ Q := by
  have no : kepA a u v = rfA (-2) a → RT mX10_kept none 14 [some (.ref 0), some (.int u), some (.int v)] [] τ Q := by
    intro e
    rw [e] at h
    refine rt_run 2 rfl ?_
    refine rt_cV (ci := 10) mX10_refuse kX10_kept_17 okX10_refuse rfl rfl rfl rfl rfl ?_
    exact refuse_spec hC (Or.inl rfl) (fun τ' hO hC' => rt_iret rfl rfl (h τ' hO hC'))
  refine rt_run 1 rfl ?_
  refine rt_cS mX10_isVertex kX10_kept_1 okX10_isVertex rfl rfl ?_
  refine isVertex_spec (fun hh => ?_) (fun u' hu eu => ?_)
  · exact rt_if_eq rfl (fun _ => no (by unfold kepA; rw [rn_no (by decide) hh])) (fun hc => absurd rfl hc)
  subst eu
  refine rt_if_eq rfl (fun hc => absurd hc (by decide)) (fun _ => ?_)
  refine rt_run 1 rfl ?_
  refine rt_cS mX10_isVertex kX10_kept_8 okX10_isVertex rfl rfl ?_
  refine isVertex_spec (fun hh => ?_) (fun v' hv ev => ?_)
  · exact rt_if_ne rfl (fun hc => absurd rfl hc) (fun _ => no (by unfold kepA; rw [rn_so hu (by decide)]; dsimp only; rw [rn_no (by decide) hh]))
  subst ev
  refine rt_if_ne rfl (fun _ => ?_) (fun hc => absurd hc (by decide))
  have eA : kepA a (nI u') (nI v') = match aW a with
      | none => rfA (-3) a
      | some _ => ((if bt (rowI (aG a) (aX a) (aW a) u') v' = true then 1 else 0), a) := by
    unfold kepA; rw [rn_so hu (by decide)]; dsimp only; rw [rn_so hv (by decide)]
  obtain ⟨s1, s2, s3, s4, s5⟩ := hC.2.2.2.2.2.2.1
  refine rt_run 4 rfl ?_
  rw [s1]
  cases hW : aW a with
  | none =>
    rw [eA, hW] at h
    refine rt_ic_ne rfl (fun hc => absurd rfl hc) (fun _ => ?_)
    refine rt_run 2 rfl ?_
    refine rt_cV (ci := 10) mX10_refuse kX10_kept_35 okX10_refuse rfl rfl rfl rfl rfl ?_
    exact refuse_spec hC (Or.inr (Or.inl rfl)) (fun τ' hO hC' => rt_iret rfl rfl (h τ' hO hC'))
  | some y =>
    have hy := (s2 y hW).1
    rw [eA, hW] at h
    dsimp only at h
    refine rt_ic_ne rfl (fun _ => ?_) (fun hc => absurd hc (neg1 (by omega)))
    refine rt_run 4 rfl ?_
    refine rt_ld u' rfl (n := 10) rfl hu ?_
    rw [s5 u' hu, hW]
    refine rt_run 4 rfl ?_
    rw [b_t1 (by omega)]
    exact rt_iret rfl rfl (h τ (OffC.rf _) hC)
theorem draw_spec {s n : Int32} (hC : CIs τ a) (h : ∀ τ', OffC τ τ' → CIs τ' (drwA a s n).2 → Q (some (.int (drwA a s n).1)) τ') : RT mX10_draw none 0 [some (.ref 0), some (.int s), some (.int n), none, none, none, none, none, none] [] τ Q := by
  have no : drwA a s n = rfA (-2) a → RT mX10_draw none 20 [some (.ref 0), some (.int s), some (.int n), none, none, none, none, none, none] [] τ Q := by
    intro e
    rw [e] at h
    refine rt_run 2 rfl ?_
    refine rt_cV (ci := 10) mX10_refuse kX10_draw_23 okX10_refuse rfl rfl rfl rfl rfl ?_
    exact refuse_spec hC (Or.inl rfl) (fun τ' hO hC' => rt_iret rfl rfl (h τ' hO hC'))
  have r1 : rn 1000000 s = none → drwA a s n = rfA (-2) a := fun e => by unfold drwA; rw [e]
  refine rt_run 1 rfl ?_
  refine rt_if_lt rfl (fun hc => no (r1 (rn_out (Or.inl hc)))) (fun hc => ?_)
  refine rt_run 2 rfl ?_
  refine rt_ic_ge rfl (fun hd => no (r1 (rn_out (Or.inr hd)))) (fun hd => ?_)
  rcases pk_ix s (n := 1000000) (by decide) with g | g | ⟨s', hs, es⟩
  · exact absurd g hc
  · exact absurd g hd
  subst es
  have r2 : rn 31 n = none → drwA a (nI s') n = rfA (-2) a := fun e => by unfold drwA; rw [rn_so hs (by decide)]; dsimp only; rw [e]
  refine rt_run 1 rfl ?_
  refine rt_if_lt rfl (fun hc => no (r2 (rn_out (Or.inl hc)))) (fun hc2 => ?_)
  refine rt_run 2 rfl ?_
  rcases pk_ix n (n := 31) (by decide) with g | g | ⟨n', hn, en⟩
  · exact absurd g hc2
  · exact rt_ic_le rfl (fun hd => absurd hd (le_no (n := 30) (by decide) g)) (fun hd => no (r2 (rn_out (Or.inr g))))
  subst en
  have eA : drwA a (nI s') (nI n') = (nI (drN s' n').2.length, sG a (drN s' n').2) := by
    unfold drwA; rw [rn_so hs (by decide)]; dsimp only; rw [rn_so hn (by decide)]
  rw [eA] at h
  refine rt_le n' 30 rfl (by omega) (by omega) (fun _ => ?_) (fun _ => by omega)
  refine rt_run 9 rfl ?_
  rw [nI_l (show s' < 2 ^ 31 by omega)]
  have hO0 : Off [1, 2, 3, 4] τ (sF τ 1 3 0) := (Off.rf _ _).sF (by simp) _ _
  have loop : ∀ d k τ' (x6 x7 x8 : Option Value), k + d = n' → Off [1, 2, 3, 4] τ τ' → EdIs τ' (drN s' k).2 → (drN s' k).1 < 2 ^ 31 → RT mX10_draw none 41 [some (.ref 0), some (.int (nI s')), some (.int (nI n')), some (.long (lN (drN s' k).1)), none, some (.int (nI k)), x6, x7, x8] [] τ' Q := by
    intro d
    induction d with
    | zero =>
      intro k τ' x6 x7 x8 hk hO hG hx
      have : k = n' := by omega
      subst this
      refine rt_run 2 rfl ?_
      refine rt_ge k k rfl (by omega) (by omega) (fun _ => ?_) (fun _ => by omega)
      refine rt_run 1 rfl ?_
      refine rt_cV (ci := 10) mX10_graphChanged kX10_draw_133 okX10_graphChanged rfl rfl rfl rfl rfl ?_
      refine graphChanged_spec (a := sG a (drN s' k).2) (hC.one.setG hO hG) (fun τ2 hO2 hC2 => ?_)
      refine rt_run 3 rfl ?_
      rw [hC2.1.1]
      exact rt_iret rfl rfl (h τ2 ((hO.c (by decide)).tr (hO2.c (by decide))) hC2)
    | succ d ih =>
      intro k τ' x6 x7 x8 hk hO hG hx
      have hlen := drN_len s' k
      refine rt_run 2 rfl ?_
      refine rt_ge k n' rfl (by omega) (by omega) (fun _ => by omega) (fun _ => ?_)
      refine rt_run 6 rfl ?_
      have e1 : lN (drN s' k).1 * 1103515245 + 12345 = lN ((drN s' k).1 * 1103515245 + 12345) := by
        rw [show (1103515245 : Int64) = lN 1103515245 from rfl, show (12345 : Int64) = lN 12345 from rfl, lN_mul, lN_add]
      rw [e1]
      have hb : (drN s' k).1 * 1103515245 + 12345 < 2 ^ 63 := by omega
      refine rt_lrem rfl (by decide) ?_
      rw [show lN ((drN s' k).1 * 1103515245 + 12345) - lN ((drN s' k).1 * 1103515245 + 12345) / 2147483648 * 2147483648 = lN (drS (drN s' k).1) from pk_lRem (b := 2147483648) hb (by decide) (by decide)]
      have hx' : drS (drN s' k).1 < 2 ^ 31 := by unfold drS; omega
      have en : drN s' (k + 1) = (drS (drN s' k).1, if drQ (drS (drN s' k).1) ∈ (drN s' k).2 then (drN s' k).2 else (drN s' k).2 ++ [drQ (drS (drN s' k).1)]) := rfl
      generalize drS (drN s' k).1 = y at hx' en
      refine rt_run 3 rfl ?_
      refine rt_ldiv rfl (by decide) ?_
      rw [show lN y / 65536 = lN (y / 65536) from pk_lDiv (b := 65536) (by omega) (by decide) (by decide)]
      refine rt_run 1 rfl ?_
      refine rt_lrem rfl (by decide) ?_
      rw [show lN (y / 65536) - lN (y / 65536) / 10 * 10 = lN (y / 65536 % 10) from pk_lRem (b := 10) (by omega) (by decide) (by decide)]
      refine rt_run 4 rfl ?_
      rw [lN_i]
      refine rt_ldiv rfl (by decide) ?_
      rw [show lN y / 1024 = lN (y / 1024) from pk_lDiv (b := 1024) (by omega) (by decide) (by decide)]
      refine rt_run 1 rfl ?_
      refine rt_lrem rfl (by decide) ?_
      rw [show lN (y / 1024) - lN (y / 1024) / 4 * 4 = lN (y / 1024 % 4) from pk_lRem (b := 4) (by omega) (by decide) (by decide)]
      refine rt_run 4 rfl ?_
      rw [lN_i]
      refine rt_ldiv rfl (by decide) ?_
      rw [show lN y / 4096 = lN (y / 4096) from pk_lDiv (b := 4096) (by omega) (by decide) (by decide)]
      refine rt_run 1 rfl ?_
      refine rt_lrem rfl (by decide) ?_
      rw [show lN (y / 4096) - lN (y / 4096) / 10 * 10 = lN (y / 4096 % 10) from pk_lRem (b := 10) (by omega) (by decide) (by decide)]
      refine rt_run 7 rfl ?_
      rw [lN_i]
      refine rt_cV (ci := 1) mX1_has kX10_draw_107 okX1_has rfl rfl rfl rfl rfl ?_
      refine has_spec hG (by omega) (by omega) (by omega) (fun hni => ?_) (fun hin => ?_)
      · have hni : drQ y ∉ (drN s' k).2 := hni
        rw [if_neg hni] at en
        refine rt_if_ne rfl (fun hc => absurd rfl hc) (fun _ => ?_)
        refine rt_run 5 rfl ?_
        refine rt_cV (ci := 1) mX1_put kX10_draw_123 okX1_put rfl rfl rfl rfl rfl ?_
        refine eput_spec hG (by omega) (by omega) (by omega) (by omega) (fun τ2 hO2 hG2 => ?_)
        refine rt_run 2 rfl ?_
        rw [← nI_succ]
        have := ih (k + 1) τ2 (some (.int (nI (y / 65536 % 10)))) (some (.int (nI (y / 1024 % 4)))) (some (.int (nI (y / 4096 % 10)))) (by omega) (hO.tr hO2) (by rw [en]; exact hG2) (by rw [en]; exact hx')
        rw [en] at this
        exact this
      · have hin : drQ y ∈ (drN s' k).2 := hin
        rw [if_pos hin] at en
        refine rt_if_ne rfl (fun _ => ?_) (fun hc => absurd hc (by decide))
        refine rt_run 2 rfl ?_
        rw [← nI_succ]
        have := ih (k + 1) τ' (some (.int (nI (y / 65536 % 10)))) (some (.int (nI (y / 1024 % 4)))) (some (.int (nI (y / 4096 % 10)))) (by omega) hO (by rw [en]; exact hG) (by rw [en]; exact hx')
        rw [en] at this
        exact this
  exact loop n' 0 _ none none none (by omega) hO0 ⟨rfl, fun i q hq => by simp [drN] at hq, by simp [drN], fun q hq => by simp [drN] at hq⟩ (by show s' < 2 ^ 31; omega)
theorem tol_ok {w : Nat} (hC : CIs τ a) (hw : w < 7) (h : Q (some (.int (tolV a w))) τ) : RT mX10_told none 0 [some (.ref 0), some (.int (nI w))] [] τ Q := by
  refine rt_run 1 rfl ?_
  obtain ⟨c1, c2, c3⟩ := hC.2.2.2.2.2.2.2
  rcases (show w = 0 ∨ w = 1 ∨ w = 2 ∨ w = 3 ∨ w = 4 ∨ w = 5 ∨ w = 6 by omega) with rfl | rfl | rfl | rfl | rfl | rfl | rfl
  · refine rt_tsIn (off := 43) (tgt := 44) rfl (by decide) (by decide) rfl (by decide) ?_
    refine rt_run 2 rfl ?_
    rw [c1]
    exact rt_iret rfl rfl h
  · refine rt_tsIn (off := 48) (tgt := 49) rfl (by decide) (by decide) rfl (by decide) ?_
    refine rt_run 2 rfl ?_
    rw [c2]
    exact rt_iret rfl rfl h
  · refine rt_tsIn (off := 53) (tgt := 54) rfl (by decide) (by decide) rfl (by decide) ?_
    refine rt_run 2 rfl ?_
    rw [c3]
    exact rt_iret rfl rfl h
  · refine rt_tsIn (off := 58) (tgt := 59) rfl (by decide) (by decide) rfl (by decide) ?_
    refine rt_run 2 rfl ?_
    rw [hC.2.2.2.1.1]
    exact rt_iret rfl rfl h
  · refine rt_tsIn (off := 63) (tgt := 64) rfl (by decide) (by decide) rfl (by decide) ?_
    refine rt_run 3 rfl ?_
    rw [hC.1.1]
    exact rt_iret rfl rfl h
  · refine rt_tsIn (off := 71) (tgt := 72) rfl (by decide) (by decide) rfl (by decide) ?_
    refine rt_run 1 rfl ?_
    refine rt_cV (ci := 10) mX10_placesOfAll kX10_told_73 okX10_placesOfAll rfl rfl rfl rfl rfl ?_
    refine placesOfAll_spec hC ?_
    exact rt_iret rfl rfl h
  · refine rt_tsIn (off := 76) (tgt := 77) rfl (by decide) (by decide) rfl (by decide) ?_
    refine rt_run 3 rfl ?_
    rw [hC.2.2.2.2.2.2.1.1]
    exact rt_iret rfl rfl h
theorem told_spec {w : Int32} (hC : CIs τ a) (h : ∀ τ', OffC τ τ' → CIs τ' (tolA a w).2 → Q (some (.int (tolA a w).1)) τ') : RT mX10_told none 0 [some (.ref 0), some (.int w)] [] τ Q := by
  have out : (w.toInt < 0 ∨ 6 < w.toInt) → rn 7 w = none → RT mX10_told none 0 [some (.ref 0), some (.int w)] [] τ Q := by
    intro h1 h2
    refine rt_run 1 rfl ?_
    refine rt_tsOut (tgt := 85) rfl h1 (by decide) ?_
    refine rt_run 2 rfl ?_
    refine rt_cV (ci := 10) mX10_refuse kX10_told_88 okX10_refuse rfl rfl rfl rfl rfl ?_
    unfold tolA at h
    rw [h2] at h
    exact refuse_spec hC (Or.inl rfl) (fun τ' hO hC' => rt_iret rfl rfl (h τ' hO hC'))
  rcases pk_ix w (n := 7) (by decide) with g | g | ⟨w', hw, ew⟩
  · refine out (Or.inl ?_) (rn_out (Or.inl g))
    rw [Int32.lt_iff_toInt_lt] at g
    exact g
  · refine out (Or.inr ?_) (rn_out (Or.inr g))
    rw [Int32.le_iff_toInt_le] at g
    have : (nI 7).toInt = 7 := by decide
    omega
  · subst ew
    refine tol_ok hC hw ?_
    unfold tolA at h
    rw [rn_so hw (by decide)] at h
    exact h τ (OffC.rf _) hC
theorem digest_spec (hC : CIs τ a) (h : ∀ τ', OffC τ τ' → CIs τ' a → Q (some (.long (digI a))) τ') : RT mX10_digest none 0 [some (.ref 0), none, none, none] [] τ Q := by
  have hl30 := hC.1.2.2.1
  have loop4 : ∀ d k τ' h0, k + d = 3 → Off kX τ τ' → digI a = hR (fun j => stdV a (j + 1)) 3 h0 → RT mX10_digest none 150 [some (.ref 0), some (.long (hR (fun j => stdV a (j + 1)) k h0)), none, some (.int (nI (k + 1)))] [] τ' Q := by
    intro d
    induction d with
    | zero =>
      intro k τ' h0 hk hO e
      have : k = 3 := by omega
      subst this
      have hC1 : CIs τ' a := hC.scr hO.w (hC.2.2.2.2.2.1.eq hO.2)
      refine rt_run 2 rfl ?_
      refine rt_gt 4 3 rfl (by omega) (by omega) (fun _ => ?_) (fun _ => by omega)
      refine rt_run 1 rfl ?_
      rw [← e]
      exact rt_lret rfl rfl (h τ' (hO.c (by decide)) hC1)
    | succ d ih =>
      intro k τ' h0 hk hO e
      have hC1 : CIs τ' a := hC.scr hO.w (hC.2.2.2.2.2.1.eq hO.2)
      refine rt_run 2 rfl ?_
      refine rt_gt (k + 1) 3 rfl (by omega) (by omega) (fun _ => by omega) (fun _ => ?_)
      refine rt_run 5 rfl ?_
      refine rt_cV (ci := 10) mX10_standing kX10_digest_162 okX10_standing rfl rfl rfl rfl rfl ?_
      refine std_ok hC1 (by omega) ?_
      refine rt_run 5 rfl ?_
      rw [← nI_succ]
      exact ih (k + 1) τ' h0 (by omega) hO e
  have loop3 : ∀ d k τ' h0, k + d = 4 → Off kX τ τ' → digI a = hR (fun j => stdV a (j + 1)) 3 (hR (exV a) 4 h0) → RT mX10_digest none 103 [some (.ref 0), some (.long (hR (exV a) k h0)), none, some (.int (nI k))] [] τ' Q := by
    intro d
    induction d with
    | zero =>
      intro k τ' h0 hk hO e
      have : k = 4 := by omega
      subst this
      refine rt_run 2 rfl ?_
      refine rt_ge 4 4 rfl (by omega) (by omega) (fun _ => ?_) (fun _ => by omega)
      refine rt_run 2 rfl ?_
      exact loop4 3 0 τ' _ rfl hO e
    | succ d ih =>
      intro k τ' h0 hk hO e
      have hC1 : CIs τ' a := hC.scr hO.w (hC.2.2.2.2.2.1.eq hO.2)
      have hk4 : k < 4 := by omega
      obtain ⟨f0, f1, f2, f3, f4, a0, a1, h38⟩ := isE_f (isE_x hk4)
      refine rt_run 2 rfl ?_
      refine rt_ge k 4 rfl (by omega) (by omega) (fun _ => by omega) (fun _ => ?_)
      refine rt_run 6 rfl ?_
      refine rt_aald rfl hk4 ?_
      refine rt_getI rfl f4 ?_
      have hs : hR (exV a) (k + 1) h0 = 31 * hR (exV a) k h0 + (exV a k).toInt64 := rfl
      rcases hC1.2.2.2.2.1.told hk4 with ⟨hA, e4⟩ | ⟨A, hA, e4, hE⟩
      · rw [e4]
        refine rt_if_eq rfl (fun _ => ?_) (fun hc => absurd rfl hc)
        refine rt_run 6 rfl ?_
        have := ih (k + 1) τ' h0 (by omega) hO e
        rw [hs, show exV a k = -1 by unfold exV; rw [hA], nI_succ] at this
        exact this
      · rw [e4]
        refine rt_if_eq rfl (fun hc => absurd hc (by decide)) (fun _ => ?_)
        refine rt_run 4 rfl ?_
        refine rt_aald rfl hk4 ?_
        refine rt_cV (ci := 10) mX10_answersOf kX10_digest_132 okX10_answersOf rfl rfl rfl rfl rfl ?_
        refine answersOf_spec (isE_x hk4) hE hC1.2.1 (hC1.1.ok _) (fun τ2 hO2 => ?_)
        refine rt_run 1 rfl ?_
        refine rt_run 5 rfl ?_
        have := ih (k + 1) τ2 h0 (by omega) (hO.tr (hO2.up (by decide))) e
        rw [hs, show exV a k = anI (aS a) A by unfold exV; rw [hA], nI_succ] at this
        exact this
  have loop2 : ∀ d k h0, k + d = (aG a).length → digI a = hR (fun j => stdV a (j + 1)) 3 (hR (exV a) 4 (hR (fun j => ofV (aG a) (j / 3) (j % 3)) (3 * (aG a).length) h0)) → RT mX10_digest none 33 [some (.ref 0), some (.long (hR (fun j => ofV (aG a) (j / 3) (j % 3)) (3 * k) h0)), none, some (.int (nI k))] [] τ Q := by
    intro d
    induction d with
    | zero =>
      intro k h0 hk e
      have : k = (aG a).length := by omega
      subst this
      refine rt_run 4 rfl ?_
      refine rt_ge (aG a).length (aG a).length rfl (by omega) (by omega) (fun _ => ?_) (fun _ => by omega) rfl hC.1.1
      refine rt_run 2 rfl ?_
      exact loop3 4 0 τ _ rfl (Off.rf _ _) e
    | succ d ih =>
      intro k h0 hk e
      refine rt_run 4 rfl ?_
      refine rt_ge k (aG a).length rfl (by omega) (by omega) (fun _ => by omega) (fun hlt => ?_) rfl hC.1.1
      have hq : (aG a)[k]? = some (aG a)[k] := List.getElem?_eq_getElem hlt
      obtain ⟨g1, g2, g3⟩ := hC.1.2.1 k _ hq
      refine rt_run 7 rfl ?_
      refine rt_ld k rfl (n := 30) rfl (by omega) ?_
      rw [g1]
      refine rt_run 10 rfl ?_
      refine rt_ld k rfl (n := 30) rfl (by omega) ?_
      rw [g2]
      refine rt_run 10 rfl ?_
      refine rt_ld k rfl (n := 30) rfl (by omega) ?_
      rw [g3]
      refine rt_run 5 rfl ?_
      have := ih (k + 1) h0 (by omega) e
      rw [show 3 * (k + 1) = 3 * k + 1 + 1 + 1 by omega] at this
      have e3 : hR (fun j => ofV (aG a) (j / 3) (j % 3)) (3 * k + 1 + 1 + 1) h0 = 31 * (31 * (31 * hR (fun j => ofV (aG a) (j / 3) (j % 3)) (3 * k) h0 + (nI (aG a)[k].1).toInt64) + (nI (aG a)[k].2.1).toInt64) + (nI (aG a)[k].2.2).toInt64 := by
        show 31 * (31 * (31 * _ + (ofV (aG a) (3 * k / 3) (3 * k % 3)).toInt64) + (ofV (aG a) ((3 * k + 1) / 3) ((3 * k + 1) % 3)).toInt64) + (ofV (aG a) ((3 * k + 1 + 1) / 3) ((3 * k + 1 + 1) % 3)).toInt64 = _
        rw [show 3 * k / 3 = k by omega, show 3 * k % 3 = 0 by omega, show (3 * k + 1) / 3 = k by omega, show (3 * k + 1) % 3 = 1 by omega, show (3 * k + 1 + 1) / 3 = k by omega, show (3 * k + 1 + 1) % 3 = 2 by omega]
        simp [ofV, hq]
      rw [e3, nI_succ] at this
      exact this
  have loop1 : ∀ d k, k + d = 7 → RT mX10_digest none 6 [some (.ref 0), some (.long (hR (tolV a) k 1931)), none, some (.int (nI k))] [] τ Q := by
    intro d
    induction d with
    | zero =>
      intro k hk
      have : k = 7 := by omega
      subst this
      refine rt_run 2 rfl ?_
      refine rt_gt 7 6 rfl (by omega) (by omega) (fun _ => ?_) (fun _ => by omega)
      refine rt_run 2 rfl ?_
      exact loop2 (aG a).length 0 _ (by omega) rfl
    | succ d ih =>
      intro k hk
      refine rt_run 2 rfl ?_
      refine rt_gt k 6 rfl (by omega) (by omega) (fun _ => by omega) (fun _ => ?_)
      refine rt_run 5 rfl ?_
      refine rt_cV (ci := 10) mX10_told kX10_digest_19 okX10_told rfl rfl rfl rfl rfl ?_
      refine tol_ok hC (by omega) ?_
      refine rt_run 5 rfl ?_
      rw [← nI_succ]
      exact ih (k + 1) (by omega)
  refine rt_run 4 rfl ?_
  exact loop1 7 0 rfl
end ClRest
end
section
/-! the reference: its state beside the class's; its small methods -/
/-- the reference's bit j as a place: bit 24 is the beginning -/
def qm (j : Nat) : Nat := if j = 24 then 0 else j + 1
def MB (x : Int32) (S : Nat → Bool) : Prop := ∀ j, j < 32 → bt x j = S (qm j)
def MEd (τ : Ty) (G : Gr) : Prop := gF τ 63 1 = nI G.length ∧ (∀ i q, G[i]? = some q → gI τ 64 (3 * i) = nI q.1 ∧ gI τ 64 (3 * i + 1) = nI q.2.1 ∧ gI τ 64 (3 * i + 2) = nI q.2.2) ∧ G.length ≤ 30 ∧ ∀ q ∈ G, q.1 < 10 ∧ q.2.1 < 4 ∧ q.2.2 < 10
def MTx (τ : Ty) (T : List Nat) : Prop := gF τ 63 4 = nI T.length ∧ T.length ≤ 80 ∧ ∀ i b, T[i]? = some b → b < 128 ∧ gI τ 66 i = nI b
def MEx (τ : Ty) (x : Nat) (A : AE) : Prop := (∀ p, p < 25 → MB (gI τ 68 (25 * x + p)) (A.1 (qm p))) ∧ (∀ s, s < 8 → MB (gI τ 69 (8 * x + s)) (A.2.1 s)) ∧ MB (gI τ 70 x) A.2.2.1 ∧ AEwf A
def MXs (τ : Ty) (X : Nat → Option AE) : Prop := ∀ x, x < 4 → match X x with
  | none => gI τ 67 x = -1
  | some A => gI τ 67 x = nI A.2.2.2 ∧ MEx τ x A
def MS0 (τ : Ty) (a : AS) : Prop := gF τ 63 9 = wI (aW a) ∧ (∀ x, aW a = some x → x < 4 ∧ (aX a x).isSome = true) ∧ gF τ 63 11 = aC a ∧ gF τ 63 12 = aLo a
def MCt (τ : Ty) (a : AS) : Prop := gI τ 65 0 = aB a ∧ gI τ 65 1 = aN a ∧ gI τ 65 2 = aF a
/-- the state but for its standing answers -/
def MI1 (τ : Ty) (a : AS) : Prop := MEd τ (aG a) ∧ MTx τ (aT a) ∧ MXs τ (aX a) ∧ MS0 τ a ∧ MCt τ a ∧ gF τ 63 32 = -1
def MIs (τ : Ty) (a : AS) : Prop := MI1 τ a ∧ ∀ u, u < 10 → gI τ 71 u = rowI (aG a) (aX a) (aW a) u
/-- the class's cells are as they were -/
def OffD (τ τ' : Ty) : Prop := (∀ k, k < 63 → gI τ' k = gI τ k ∧ gL τ' k = gL τ k ∧ gF τ' k = gF τ k) ∧ gW τ' = gW τ
theorem OffD.rf (τ : Ty) : OffD τ τ := ⟨fun _ _ => ⟨rfl, rfl, rfl⟩, rfl⟩
theorem OffD.tr {τ τ' τ'' : Ty} (h : OffD τ τ') (h' : OffD τ' τ'') : OffD τ τ'' :=
  ⟨fun k hk => ⟨(h'.1 k hk).1.trans (h.1 k hk).1, (h'.1 k hk).2.1.trans (h.1 k hk).2.1, (h'.1 k hk).2.2.trans (h.1 k hk).2.2⟩, h'.2.trans h.2⟩
theorem Off.d {ks : List Nat} {τ τ' : Ty} (h : Off ks τ τ') (hs : ∀ k ∈ ks, 63 ≤ k) : OffD τ τ' := ⟨fun k hk => h.1 k (fun hin => by have := hs k hin; omega), h.2⟩
/-- only these cells have changed, and these fields of the reference -/
def OfM (ks fs : List Nat) (τ τ' : Ty) : Prop := (∀ k, k ∉ ks → gI τ' k = gI τ k ∧ gL τ' k = gL τ k) ∧ (∀ k, k ≠ 63 → gF τ' k = gF τ k) ∧ (∀ j, j ∉ fs → gF τ' 63 j = gF τ 63 j) ∧ gW τ' = gW τ
theorem OfM.rf (ks fs : List Nat) (τ : Ty) : OfM ks fs τ τ := ⟨fun _ _ => ⟨rfl, rfl⟩, fun _ _ => rfl, fun _ _ => rfl, rfl⟩
theorem OfM.tr {ks fs : List Nat} {τ τ' τ'' : Ty} (h : OfM ks fs τ τ') (h' : OfM ks fs τ' τ'') : OfM ks fs τ τ'' :=
  ⟨fun k hk => ⟨(h'.1 k hk).1.trans (h.1 k hk).1, (h'.1 k hk).2.trans (h.1 k hk).2⟩, fun k hk => (h'.2.1 k hk).trans (h.2.1 k hk), fun j hj => (h'.2.2.1 j hj).trans (h.2.2.1 j hj), h'.2.2.2.trans h.2.2.2⟩
theorem OfM.up {ks fs ks' fs' : List Nat} {τ τ' : Ty} (h : OfM ks fs τ τ') (h1 : ∀ k ∈ ks, k ∈ ks') (h2 : ∀ k ∈ fs, k ∈ fs') : OfM ks' fs' τ τ' :=
  ⟨fun k hk => h.1 k (fun g => hk (h1 k g)), h.2.1, fun j hj => h.2.2.1 j (fun g => hj (h2 j g)), h.2.2.2⟩
theorem OfM.d {ks fs : List Nat} {τ τ' : Ty} (h : OfM ks fs τ τ') (hs : ∀ k ∈ ks, 63 ≤ k) : OffD τ τ' :=
  ⟨fun k hk => ⟨(h.1 k (fun hin => by have := hs k hin; omega)).1, (h.1 k (fun hin => by have := hs k hin; omega)).2, h.2.1 k (by omega)⟩, h.2.2.2⟩
theorem OfM.sI {ks fs : List Nat} {τ τ' : Ty} {k : Nat} (h : OfM ks fs τ τ') (hk : k ∈ ks) (j : Nat) (x : Int32) : OfM ks fs τ (sI τ' k j x) := by
  refine ⟨fun k' hk' => ⟨?_, (h.1 k' hk').2⟩, h.2⟩
  rw [gI_sI, if_neg (show ¬ k' = k from fun e => hk' (e ▸ hk))]
  exact (h.1 k' hk').1
theorem OfM.sL {ks fs : List Nat} {τ τ' : Ty} {k : Nat} (h : OfM ks fs τ τ') (hk : k ∈ ks) (j : Nat) (x : Int64) : OfM ks fs τ (sL τ' k j x) := by
  refine ⟨fun k' hk' => ⟨(h.1 k' hk').1, ?_⟩, h.2⟩
  rw [gL_sL, if_neg (show ¬ k' = k from fun e => hk' (e ▸ hk))]
  exact (h.1 k' hk').2
theorem OfM.sF {ks fs : List Nat} {τ τ' : Ty} {j : Nat} (h : OfM ks fs τ τ') (hj : j ∈ fs) (x : Int32) : OfM ks fs τ (sF τ' 63 j x) := by
  refine ⟨h.1, fun k hk => ?_, fun j' hj' => ?_, h.2.2.2⟩
  · rw [gF_sF, if_neg hk]; exact h.2.1 k hk
  · rw [gF_sF, if_pos rfl, pk_un (show j' ≠ j from fun e => hj' (e ▸ hj))]; exact h.2.2.1 j' hj'
theorem qm_inj {i j : Nat} (h : qm i = qm j) (hi : i < 25) (hj : j < 25) : i = j := by
  unfold qm at h
  split at h <;> split at h <;> omega
def pmI (p : Nat) : Nat := if p = 0 then 24 else p - 1
theorem qm_pm {p : Nat} (hp : p < 25) : qm (pmI p) = p ∧ pmI p < 25 := by
  unfold qm pmI
  by_cases h : p = 0
  · subst h; exact ⟨rfl, by decide⟩
  · rw [if_neg h]
    exact ⟨by rw [if_neg (by omega)]; omega, by omega⟩
theorem qm_lt {j : Nat} (hj : j < 25) : qm j < 25 := by
  unfold qm
  split <;> omega
theorem qm_ge {j : Nat} (hj : 25 ≤ j) : 26 ≤ qm j := by
  unfold qm
  rw [if_neg (by omega)]
  omega
theorem any_qm (f : Nat → Bool) : (List.range 25).any (fun p => f (qm p)) = (List.range 25).any f := by
  rw [Bool.eq_iff_iff]
  simp only [List.any_eq_true, List.mem_range]
  constructor
  · rintro ⟨p, hp, h⟩
    exact ⟨qm p, qm_lt hp, h⟩
  · rintro ⟨p, hp, h⟩
    exact ⟨pmI p, (qm_pm hp).2, by rw [(qm_pm hp).1]; exact h⟩
section MdSmall
variable {τ : Ty} {Q : Option Value → Ty → Prop}
theorem in_gen {x lo hi : Int32} (h0 : (x < lo ∨ hi < x) → Q (some (.int 0)) τ) (h1 : ¬ x < lo → ¬ hi < x → Q (some (.int 1)) τ) : RT mX11_in none 0 [some (.int x), some (.int lo), some (.int hi)] [] τ Q := by
  have no : (x < lo ∨ hi < x) → RT mX11_in none 14 [some (.int x), some (.int lo), some (.int hi)] [] τ Q := by
    intro hh
    refine rt_run 1 rfl ?_
    exact rt_zret rfl rfl (Or.inl rfl) (h0 hh)
  refine rt_run 2 rfl ?_
  refine rt_ic_lt rfl (fun hc => no (Or.inl hc)) (fun hc => ?_)
  refine rt_run 2 rfl ?_
  refine rt_ic_gt rfl (fun hd => no (Or.inr hd)) (fun hd => ?_)
  refine rt_run 2 rfl ?_
  exact rt_zret rfl rfl (Or.inr rfl) (h1 hc hd)
theorem in_spec {x hi : Int32} (n : Nat) (hn : n < 2 ^ 31) (hh : hi = nI n - 1) (h0 : rn n x = none → Q (some (.int 0)) τ) (h1 : ∀ j, j < n → x = nI j → Q (some (.int 1)) τ) : RT mX11_in none 0 [some (.int x), some (.int 0), some (.int hi)] [] τ Q := by
  have ehi : hi.toInt = (n : Int) - 1 := by
    subst hh
    cases n with
    | zero => decide
    | succ n => rw [nI_pred, nI_toInt (by omega)]; omega
  refine in_gen (fun hc => h0 ?_) (fun hc hd => ?_)
  · refine rn_out ?_
    rcases hc with hc | hc
    · exact Or.inl hc
    · right
      rw [Int32.lt_iff_toInt_lt] at hc
      rw [Int32.le_iff_toInt_le, nI_toInt hn]
      omega
  · rcases pk_ix x (n := n) hn with g | g | ⟨j, hj, e⟩
    · exact absurd g hc
    · exfalso
      rw [Int32.lt_iff_toInt_lt] at hd
      rw [Int32.le_iff_toInt_le, nI_toInt hn] at g
      omega
    · exact h1 j hj e
theorem mVertex_spec {x : Int32} (h0 : rn 10 x = none → Q (some (.int 0)) τ) (h1 : ∀ j, j < 10 → x = nI j → Q (some (.int 1)) τ) : RT mX11_isVertex none 0 [some (.int x)] [] τ Q := by
  refine rt_run 3 rfl ?_
  refine rt_cS mX11_in kX11_isVertex_4 okX11_in rfl rfl ?_
  exact in_spec 10 (by decide) rfl (fun e => rt_zret rfl rfl (Or.inl rfl) (h0 e)) (fun j hj e => rt_zret rfl rfl (Or.inr rfl) (h1 j hj e))
theorem mOne_spec {x : Int32} (h0 : rn 4 x = none → Q (some (.int 0)) τ) (h1 : ∀ j, j < 4 → x = nI j → Q (some (.int 1)) τ) : RT mX11_isOne none 0 [some (.int x)] [] τ Q := by
  refine rt_run 3 rfl ?_
  refine rt_cS mX11_in kX11_isOne_3 okX11_in rfl rfl ?_
  exact in_spec 4 (by decide) rfl (fun e => rt_zret rfl rfl (Or.inl rfl) (h0 e)) (fun j hj e => rt_zret rfl rfl (Or.inr rfl) (h1 j hj e))
theorem refuses_gen {r : Int32} {i : Nat} (hi : i < 3) (hr : -2 - r = nI i) (h : Q (some (.int r)) (sI τ 65 i (gI τ 65 i + 1))) : RT mX11_refuses none 0 [some (.ref 63), some (.int r)] [] τ Q := by
  refine rt_run 6 rfl ?_
  refine rt_ld i rfl (n := 3) rfl hi ?_ hr
  refine rt_run 2 rfl ?_
  refine rt_st i rfl (n := 3) rfl hi ?_ hr
  refine rt_run 1 rfl ?_
  exact rt_iret rfl rfl h
/-- how many bits below n, as the reference adds them -/
def onI (x : Int32) : Int32 := smI (fun k => if bt x k = true then 1 else 0) 25
theorem ones_spec {x : Int32} (h : Q (some (.int (onI x))) τ) : RT mX11_ones none 0 [some (.int x), none, none] [] τ Q := by
  have loop : ∀ d k, k + d = 25 → RT mX11_ones none 4 [some (.int x), some (.int (smI (fun k => if bt x k = true then 1 else 0) k)), some (.int (nI k))] [] τ Q := by
    intro d
    induction d with
    | zero =>
      intro k hk
      have : k = 25 := by omega
      subst this
      refine rt_run 2 rfl ?_
      refine rt_ge 25 25 rfl (by omega) (by omega) (fun _ => ?_) (fun _ => by omega)
      refine rt_run 1 rfl ?_
      exact rt_iret rfl rfl h
    | succ d ih =>
      intro k hk
      refine rt_run 2 rfl ?_
      refine rt_ge k 25 rfl (by omega) (by omega) (fun _ => by omega) (fun _ => ?_)
      refine rt_run 10 rfl ?_
      have := ih (k + 1) (by omega)
      rw [show smI (fun k => if bt x k = true then 1 else 0) (k + 1) = smI (fun k => if bt x k = true then 1 else 0) k + (if bt x k = true then 1 else 0) from rfl, ← b_t1 (show k < 32 by omega), nI_succ] at this
      exact this
  refine rt_run 4 rfl ?_
  exact loop 25 0 rfl
variable {G : Gr}
theorem fromOf_spec {e : Nat} (hG : MEd τ G) (he : e < G.length) (h : ∀ q, G[e]? = some q → Q (some (.int (nI q.1))) τ) : RT mX11_fromOf none 0 [some (.ref 63), some (.int (nI e))] [] τ Q := by
  have hq : G[e]? = some G[e] := List.getElem?_eq_getElem he
  have hl := hG.2.2.1
  refine rt_run 5 rfl ?_
  refine rt_ld (3 * e) rfl (n := 90) rfl (by omega) ?_ (by rw [← pk_mul]; rfl)
  rw [(hG.2.1 e _ hq).1]
  exact rt_iret rfl rfl (h _ hq)
theorem letterOf_spec {e : Nat} (hG : MEd τ G) (he : e < G.length) (h : ∀ q, G[e]? = some q → Q (some (.int (nI q.2.1))) τ) : RT mX11_letterOf none 0 [some (.ref 63), some (.int (nI e))] [] τ Q := by
  have hq : G[e]? = some G[e] := List.getElem?_eq_getElem he
  have hl := hG.2.2.1
  refine rt_run 7 rfl ?_
  refine rt_ld (3 * e + 1) rfl (n := 90) rfl (by omega) ?_ (by rw [← nI_add, ← pk_mul]; rfl)
  rw [(hG.2.1 e _ hq).2.1]
  exact rt_iret rfl rfl (h _ hq)
theorem toOf_spec {e : Nat} (hG : MEd τ G) (he : e < G.length) (h : ∀ q, G[e]? = some q → Q (some (.int (nI q.2.2))) τ) : RT mX11_toOf none 0 [some (.ref 63), some (.int (nI e))] [] τ Q := by
  have hq : G[e]? = some G[e] := List.getElem?_eq_getElem he
  have hl := hG.2.2.1
  refine rt_run 7 rfl ?_
  refine rt_ld (3 * e + 2) rfl (n := 90) rfl (by omega) ?_ (by rw [← nI_add, ← pk_mul]; rfl)
  rw [(hG.2.1 e _ hq).2.2]
  exact rt_iret rfl rfl (h _ hq)
theorem isThere_spec {u l v : Nat} (hG : MEd τ G) (hu : u < 10) (hl : l < 4) (hv : v < 10) (h : Q (some (.int (b01 (decide ((u, l, v) ∈ G))))) τ) : RT mX11_isThere none 0 [some (.ref 63), some (.int (nI u)), some (.int (nI l)), some (.int (nI v)), none, none] [] τ Q := by
  have hlen := hG.2.2.1
  have loop : ∀ d i, i + d = G.length → RT mX11_isThere none 6 [some (.ref 63), some (.int (nI u)), some (.int (nI l)), some (.int (nI v)), some (.int (b01 (decide ((u, l, v) ∈ G.take i)))), some (.int (nI i))] [] τ Q := by
    intro d
    induction d with
    | zero =>
      intro i hi
      refine rt_run 3 rfl ?_
      refine rt_ge i G.length rfl (by omega) (by omega) (fun _ => ?_) (fun _ => by omega) rfl hG.1
      refine rt_run 1 rfl ?_
      rw [List.take_of_length_le (by omega)]
      refine rt_zret rfl rfl ?_ h
      cases decide ((u, l, v) ∈ G)
      · exact Or.inl rfl
      · exact Or.inr rfl
    | succ d ih =>
      intro i hi
      refine rt_run 3 rfl ?_
      refine rt_ge i G.length rfl (by omega) (by omega) (fun _ => by omega) (fun hlt => ?_) rfl hG.1
      have hq : G[i]? = some G[i] := List.getElem?_eq_getElem hlt
      have hb := hG.2.2.2 _ (List.getElem_mem hlt)
      have hmem : (u, l, v) ∈ G.take (i + 1) ↔ ((u, l, v) ∈ G.take i ∨ (u, l, v) = G[i]) := by
        rw [List.take_add_one, hq, List.mem_append]
        simp
      have hih := ih (i + 1) (by omega)
      have yes : ((u, l, v) ∈ G.take i ∨ (u, l, v) = G[i]) → ∀ z, RT mX11_isThere none 50 [some (.ref 63), some (.int (nI u)), some (.int (nI l)), some (.int (nI v)), some (.int z), some (.int (nI i))] [] τ Q := by
        intro hc z
        rw [decide_eq_true (hmem.mpr hc), nI_succ i] at hih
        refine rt_run 2 rfl ?_
        refine rt_run 3 rfl ?_
        exact hih
      have nope : ¬ ((u, l, v) ∈ G.take i ∨ (u, l, v) = G[i]) → ∀ z, RT mX11_isThere none 54 [some (.ref 63), some (.int (nI u)), some (.int (nI l)), some (.int (nI v)), some (.int z), some (.int (nI i))] [] τ Q := by
        intro hc z
        rw [decide_eq_false (fun g => hc (hmem.mp g)), nI_succ i] at hih
        refine rt_run 1 rfl ?_
        refine rt_run 3 rfl ?_
        exact hih
      refine rt_run 1 rfl ?_
      by_cases hm : (u, l, v) ∈ G.take i
      · rw [decide_eq_true hm]
        exact rt_if_ne rfl (fun _ => yes (Or.inl hm) _) (fun hc => absurd hc (by decide))
      rw [decide_eq_false hm]
      refine rt_if_ne rfl (fun hc => absurd rfl hc) (fun _ => ?_)
      refine rt_run 2 rfl ?_
      refine rt_cV (ci := 11) mX11_fromOf kX11_isThere_23 okX11_fromOf rfl rfl rfl rfl rfl ?_
      refine fromOf_spec hG hlt (fun q e1 => ?_)
      rw [hq] at e1
      cases e1
      refine rt_run 1 rfl ?_
      refine rt_ne G[i].1 u rfl (by omega) (by omega) (fun hne => nope ?_ _) (fun e1 => ?_)
      · rintro (g | g)
        · exact hm g
        · exact hne (by rw [← g])
      refine rt_run 2 rfl ?_
      refine rt_cV (ci := 11) mX11_letterOf kX11_isThere_33 okX11_letterOf rfl rfl rfl rfl rfl ?_
      refine letterOf_spec hG hlt (fun q e2 => ?_)
      rw [hq] at e2
      cases e2
      refine rt_run 1 rfl ?_
      refine rt_ne G[i].2.1 l rfl (by omega) (by omega) (fun hne => nope ?_ _) (fun e2 => ?_)
      · rintro (g | g)
        · exact hm g
        · exact hne (by rw [← g])
      refine rt_run 2 rfl ?_
      refine rt_cV (ci := 11) mX11_toOf kX11_isThere_43 okX11_toOf rfl rfl rfl rfl rfl ?_
      refine toOf_spec hG hlt (fun q e3 => ?_)
      rw [hq] at e3
      cases e3
      refine rt_run 1 rfl ?_
      refine rt_ne G[i].2.2 v rfl (by omega) (by omega) (fun hne => nope ?_ _) (fun e3 => yes (Or.inr ?_) _)
      · rintro (g | g)
        · exact hm g
        · exact hne (by rw [← g])
      · rw [← e1, ← e2, ← e3]
  refine rt_run 4 rfl ?_
  exact loop G.length 0 (by omega)
theorem adds_spec {u l v : Nat} (hG : MEd τ G) (hu : u < 10) (hl : l < 4) (hv : v < 10) (hlen : G.length < 30) (h : ∀ τ', OfM [64] [1] τ τ' → MEd τ' (G ++ [(u, l, v)]) → Q none τ') : RT mX11_adds none 0 [some (.ref 63), some (.int (nI u)), some (.int (nI l)), some (.int (nI v))] [] τ Q := by
  have hm := hG.1
  refine rt_run 7 rfl ?_
  refine rt_st (3 * G.length) rfl (n := 90) rfl (by omega) ?_ (by rw [hm, ← pk_mul]; rfl)
  refine rt_run 9 rfl ?_
  refine rt_st (3 * G.length + 1) rfl (n := 90) rfl (by omega) ?_ (by rw [show gF (sI τ 64 (3 * G.length) (nI u)) 63 1 = nI G.length from hm, ← nI_add, ← pk_mul]; rfl)
  refine rt_run 9 rfl ?_
  refine rt_st (3 * G.length + 2) rfl (n := 90) rfl (by omega) ?_ (by rw [show gF (sI (sI τ 64 (3 * G.length) (nI u)) 64 (3 * G.length + 1) (nI l)) 63 1 = nI G.length from hm, ← nI_add, ← pk_mul]; rfl)
  refine rt_run 6 rfl ?_
  refine rt_vret rfl rfl (h _ (((((OfM.rf _ _ _).sI (by simp) _ _).sI (by simp) _ _).sI (by simp) _ _).sF (by simp) _) ⟨?_, fun i q hq => ?_, by rw [List.length_append]; exact hlen, fun q hq => ?_⟩)
  · rw [gF_sF, if_pos rfl, pk_us, List.length_append]
    show gF τ 63 1 + 1 = nI (G.length + 1)
    rw [hm, ← nI_succ]
  · show upd (upd (upd (gI τ 64) _ _) _ _) _ _ _ = _ ∧ upd (upd (upd (gI τ 64) _ _) _ _) _ _ _ = _ ∧ upd (upd (upd (gI τ 64) _ _) _ _) _ _ _ = _
    rcases getApp hq with ⟨hi, hq⟩ | ⟨rfl, rfl⟩
    · rw [pk_un (by omega), pk_un (by omega), pk_un (by omega), pk_un (by omega), pk_un (by omega), pk_un (by omega), pk_un (by omega), pk_un (by omega), pk_un (by omega)]
      exact hG.2.1 i q hq
    · refine ⟨?_, ?_, ?_⟩
      · rw [pk_un (by omega), pk_un (by omega), pk_us]
      · rw [pk_un (by omega), pk_us]
      · rw [pk_us]
  · rcases List.mem_append.mp hq with hq | hq
    · exact hG.2.2.2 q hq
    · simp at hq
      subst hq
      exact ⟨hu, hl, hv⟩
variable {A : AE} {x : Nat}
theorem goes_spec {s : Nat} {set : Int32} {S : Nat → Bool} (hx : x < 4) (hs : s < 8) (hE : MEx τ x A) (hS : MB set S) (h : ∀ r : Int32, MB r (fun q => nxt A S q && A.2.1 s q) → Q (some (.int r)) τ) : RT mX11_goes none 0 [some (.ref 63), some (.int (nI x)), some (.int set), some (.int (nI s)), none, none] [] τ Q := by
  have loop : ∀ d p, p + d = 25 → RT mX11_goes none 6 [some (.ref 63), some (.int (nI x)), some (.int set), some (.int (nI s)), some (.int (orL (fun p => gI τ 68 (25 * x + p)) set p)), some (.int (nI p))] [] τ Q := by
    intro d
    induction d with
    | zero =>
      intro p hp
      have : p = 25 := by omega
      subst this
      refine rt_run 2 rfl ?_
      refine rt_ge 25 25 rfl (by omega) (by omega) (fun _ => ?_) (fun _ => by omega)
      refine rt_run 8 rfl ?_
      refine rt_ld (8 * x + s) rfl (n := 32) rfl (by omega) ?_ (by rw [← nI_add, ← pk_mul]; rfl)
      refine rt_run 1 rfl ?_
      refine rt_iret rfl rfl (h _ (fun j hj => ?_))
      rw [b_and, orL_bt, hE.2.1 s hs j hj]
      congr 1
      unfold nxt
      rw [← any_qm (fun p => S p && A.1 p (qm j))]
      refine any_ext (Nat.le_refl _) (fun p hp => ?_) (fun p h1 h2 => by omega)
      rw [hS p (by omega), hE.1 p hp j hj]
    | succ d ih =>
      intro p hp
      refine rt_run 2 rfl ?_
      refine rt_ge p 25 rfl (by omega) (by omega) (fun _ => by omega) (fun _ => ?_)
      refine rt_run 7 rfl ?_
      have hih := ih (p + 1) (by omega)
      rw [nI_succ] at hih
      rw [b_t1 (by omega)]
      unfold orL at hih
      cases hb : bt set p with
      | true =>
        rw [hb, if_pos rfl] at hih
        refine rt_ic_ne rfl (fun hc => absurd rfl hc) (fun _ => ?_)
        refine rt_run 7 rfl ?_
        refine rt_ld (25 * x + p) rfl (n := 100) rfl (by omega) ?_ (by rw [← nI_add, ← pk_mul]; rfl)
        refine rt_run 1 rfl ?_
        refine rt_run 4 rfl ?_
        exact hih
      | false =>
        rw [hb, if_neg (by decide)] at hih
        refine rt_ic_ne rfl (fun _ => ?_) (fun hc => absurd hc (by decide))
        refine rt_run 1 rfl ?_
        refine rt_run 4 rfl ?_
        rw [Int32.or_zero]
        exact hih
  refine rt_run 4 rfl ?_
  exact loop 25 0 rfl
def MBp (x : Int32) (P : Nat → Prop) : Prop := ∀ j, j < 32 → (bt x j = true ↔ P (qm j))
theorem comes_spec {s : Nat} {set : Int32} {P : Nat → Prop} (hx : x < 4) (hs : s < 8) (hE : MEx τ x A) (hS : MBp set P) (h : ∀ r : Int32, MBp r (fun p => ∃ q, A.1 p q = true ∧ A.2.1 s q = true ∧ P q) → Q (some (.int r)) τ) : RT mX11_comes none 0 [some (.ref 63), some (.int (nI x)), some (.int set), some (.int (nI s)), none, none, none] [] τ Q := by
  refine rt_run 8 rfl ?_
  refine rt_ld (8 * x + s) rfl (n := 32) rfl (by omega) ?_ (by rw [← nI_add, ← pk_mul]; rfl)
  refine rt_run 6 rfl ?_
  generalize hdue : set &&& gI τ 69 (8 * x + s) = due
  have hn := hE.2.2.2
  have loop : ∀ d p, p + d = 25 → RT mX11_comes none 21 [some (.ref 63), some (.int (nI x)), some (.int set), some (.int (nI s)), some (.int due), some (.int (ahL (fun p => gI τ 68 (25 * x + p)) due p)), some (.int (nI p))] [] τ Q := by
    intro d
    induction d with
    | zero =>
      intro p hp
      have : p = 25 := by omega
      subst this
      refine rt_run 2 rfl ?_
      refine rt_ge 25 25 rfl (by omega) (by omega) (fun _ => ?_) (fun _ => by omega)
      refine rt_run 1 rfl ?_
      refine rt_iret rfl rfl (h _ (fun j hj => ?_))
      rw [ahL_bt _ _ _ (by omega) hj, Bool.and_eq_true, decide_eq_true_iff]
      constructor
      · rintro ⟨hj25, h2⟩
        rw [andNz, List.any_eq_true] at h2
        obtain ⟨i, hi, h3⟩ := h2
        have hi := List.mem_range.mp hi
        rw [← hdue, b_and, Bool.and_eq_true, Bool.and_eq_true, hE.1 j hj25 i hi, hE.2.1 s hs i hi] at h3
        exact ⟨qm i, h3.1, h3.2.2, (hS i hi).mp h3.2.1⟩
      · rintro ⟨q, g1, g2, g3⟩
        have hq := hn.2.1 _ _ g1
        have hq24 : q ≤ 24 := by have := hn.1; omega
        have hj25 : j < 25 := by
          by_cases hh : j < 25
          · exact hh
          · have := qm_ge (j := j) (by omega)
            have := hn.1
            omega
        refine ⟨hj25, ?_⟩
        rw [andNz, List.any_eq_true]
        obtain ⟨e1, e2⟩ := qm_pm (p := q) (by omega)
        refine ⟨pmI q, List.mem_range.mpr (by omega), ?_⟩
        rw [← hdue, b_and, hE.1 j hj25 _ (by omega), hE.2.1 s hs _ (by omega), e1, g1, g2, (hS (pmI q) (by omega)).mpr (by rw [e1]; exact g3)]
        rfl
    | succ d ih =>
      intro p hp
      refine rt_run 2 rfl ?_
      refine rt_ge p 25 rfl (by omega) (by omega) (fun _ => by omega) (fun _ => ?_)
      have hih := ih (p + 1) (by omega)
      rw [nI_succ] at hih
      unfold ahL at hih
      refine rt_run 8 rfl ?_
      refine rt_ld (25 * x + p) rfl (n := 100) rfl (by omega) ?_ (by rw [← nI_add, ← pk_mul]; rfl)
      refine rt_run 2 rfl ?_
      refine rt_if_eq rfl (fun hz => ?_) (fun hz => ?_)
      · rw [if_pos hz] at hih
        refine rt_run 1 rfl ?_
        refine rt_run 4 rfl ?_
        rw [Int32.or_zero]
        exact hih
      · rw [if_neg hz] at hih
        refine rt_run 4 rfl ?_
        refine rt_run 4 rfl ?_
        exact hih
  exact loop 25 0 rfl
end MdSmall
end
section
/-! the reference's spreads, farOf, endsOf -/
theorem MEd.of {ks fs : List Nat} {τ τ' : Ty} {G : Gr} (h : MEd τ G) (ho : OfM ks fs τ τ') (h1 : 64 ∉ ks ∧ 1 ∉ fs) : MEd τ' G := by
  unfold MEd at *
  rw [ho.2.2.1 1 h1.2, (ho.1 64 h1.1).1]
  exact h
theorem MEx.of {ks fs : List Nat} {τ τ' : Ty} {x : Nat} {A : AE} (h : MEx τ x A) (ho : OfM ks fs τ τ') (h1 : 68 ∉ ks ∧ 69 ∉ ks ∧ 70 ∉ ks) : MEx τ' x A := by
  unfold MEx at *
  rw [(ho.1 68 h1.1).1, (ho.1 69 h1.2.1).1, (ho.1 70 h1.2.2).1]
  exact h
theorem MXs.of {ks fs : List Nat} {τ τ' : Ty} {X : Nat → Option AE} (h : MXs τ X) (ho : OfM ks fs τ τ') (h1 : 67 ∉ ks ∧ 68 ∉ ks ∧ 69 ∉ ks ∧ 70 ∉ ks) : MXs τ' X := by
  intro x hx
  have := h x hx
  cases hX : X x with
  | none =>
    rw [hX] at this
    dsimp only at this ⊢
    rw [(ho.1 67 h1.1).1]
    exact this
  | some A =>
    rw [hX] at this
    dsimp only at this ⊢
    exact ⟨by rw [(ho.1 67 h1.1).1]; exact this.1, this.2.of ho h1.2⟩
theorem MEd.ok {τ : Ty} {G : Gr} (h : MEd τ G) (w : Option Nat) : StOk (stL G w) := stL_ok h.2.2.1 h.2.2.2 w
theorem hit_app (L M : SL) (A : AE) (fr : Nat → Nat → Bool) (v q : Nat) : hit (L ++ M) A fr v q = (hit L A fr v q || hit M A fr v q) := List.any_append
theorem hit_s {G : Gr} {w : Option Nat} {e : Nat} {q : Nat × Nat × Nat} (A : AE) (fr : Nat → Nat → Bool) (hq : G[e]? = some q) (hw : w ≠ some e) (v i : Nat) : hit (fwdN G w (e + 1) ++ bwdN G w (e + 1)) A fr v i = (hit (fwdN G w e ++ bwdN G w e) A fr v i || (decide (q.2.2 = v) && nxt A (fr q.1) i && A.2.1 q.2.1 i) || (decide (q.1 = v) && nxt A (fr q.2.2) i && A.2.1 (q.2.1 + 4) i)) := by
  have e1 : fwdN G w (e + 1) = fwdN G w e ++ [(q.1, q.2.1, q.2.2, e)] := by
    show fwdN G w e ++ _ = _
    rw [hq]
    dsimp only
    rw [if_neg hw]
  have e2 : bwdN G w (e + 1) = bwdN G w e ++ [(q.2.2, q.2.1 + 4, q.1, e)] := by
    show bwdN G w e ++ _ = _
    rw [hq]
    dsimp only
    rw [if_neg hw]
  rw [e1, e2, hit_app, hit_app, hit_app, hit_app]
  have e3 : ∀ st : Nat × Nat × Nat × Nat, hit [st] A fr v i = (decide (st.2.2.1 = v) && nxt A (fr st.1) i && A.2.1 st.2.1 i) := by
    intro st
    unfold hit
    rw [List.any_cons, List.any_nil, Bool.or_false]
  rw [e3, e3]
  dsimp only
  generalize hit (fwdN G w e) A fr v i = b1
  generalize hit (bwdN G w e) A fr v i = b2
  generalize (decide (q.2.2 = v) && nxt A (fr q.1) i && A.2.1 q.2.1 i) = b3
  generalize (decide (q.1 = v) && nxt A (fr q.2.2) i && A.2.1 (q.2.1 + 4) i) = b4
  cases b1 <;> cases b2 <;> cases b3 <;> cases b4 <;> rfl
theorem hit_s0 {G : Gr} {w : Option Nat} {e : Nat} (A : AE) (fr : Nat → Nat → Bool) (hw : w = some e) : fwdN G w (e + 1) = fwdN G w e ∧ bwdN G w (e + 1) = bwdN G w e := by
  constructor
  · show fwdN G w e ++ _ = _
    cases hg : G[e]? with
    | none => simp
    | some q => simp [hw]
  · show bwdN G w e ++ _ = _
    cases hg : G[e]? with
    | none => simp
    | some q => simp [hw]
section MdFar
variable {τ : Ty} {Q : Option Value → Ty → Prop} {G : Gr} {A : AE} {x : Nat} {w : Option Nat}
theorem mspreads_spec {fr : Nat → Nat → Bool} (hx : x < 4) (hG : MEd τ G) (hw : gF τ 63 32 = wI w) (hw2 : ∀ e, w = some e → e < 100) (hE : MEx τ x A) (hfr : ∀ v, v < 10 → MB (gI τ 78 v) (fr v))
    (h : ∀ τ', OfM [79] [] τ τ' → (∀ v, v < 10 → MB (gI τ' 79 v) (hit (stL G w) A fr v)) → Q none τ') : RT mX11_spreads none 0 [some (.ref 63), some (.int (nI x)), none] [] τ Q := by
  have hlen := hG.2.2.1
  have loop2 : ∀ d e τ', e + d = G.length → OfM [79] [] τ τ' → (∀ v, v < 10 → MB (gI τ' 79 v) (hit (fwdN G w e ++ bwdN G w e) A fr v)) → RT mX11_spreads none 23 [some (.ref 63), some (.int (nI x)), some (.int (nI e))] [] τ' Q := by
    intro d
    induction d with
    | zero =>
      intro e τ' he hO hl
      have : e = G.length := by omega
      subst this
      refine rt_run 3 rfl ?_
      refine rt_ge G.length G.length rfl (by omega) (by omega) (fun _ => ?_) (fun _ => by omega) rfl (hG.of hO (by decide)).1
      exact rt_vret rfl rfl (h τ' hO hl)
    | succ d ih =>
      intro e τ' he hO hl
      have hG' := hG.of hO (by decide)
      have hE' := hE.of hO (by decide)
      refine rt_run 3 rfl ?_
      refine rt_ge e G.length rfl (by omega) (by omega) (fun _ => by omega) (fun hlt => ?_) rfl hG'.1
      have hq : G[e]? = some G[e] := List.getElem?_eq_getElem hlt
      obtain ⟨b1, b2, b3⟩ := hG.2.2.2 _ (List.getElem_mem hlt)
      generalize G[e] = q at hq b1 b2 b3
      have ewl : gF τ' 63 32 = wI w := by rw [hO.2.2.1 32 (by decide)]; exact hw
      refine rt_run 3 rfl ?_
      rw [ewl]
      refine rt_ic_eq rfl (fun hc => ?_) (fun hc => ?_)
      · have hwe : w = some e := (wI_eq hw2 (by omega)).mp hc
        refine rt_run 2 rfl ?_
        rw [← nI_succ]
        refine ih (e + 1) τ' (by omega) hO ?_
        obtain ⟨e1, e2⟩ := hit_s0 (G := G) A fr hwe
        rw [e1, e2]
        exact hl
      · have hwe : w ≠ some e := fun g => hc ((wI_eq hw2 (by omega)).mpr g)
        refine rt_run 4 rfl ?_
        refine rt_cV (ci := 11) mX11_toOf kX11_spreads_45 okX11_toOf rfl rfl rfl rfl rfl ?_
        refine toOf_spec hG' hlt (fun q' eq => ?_)
        rw [hq] at eq
        cases eq
        refine rt_run 1 rfl ?_
        refine rt_ld q.2.2 rfl (n := 10) rfl b3 ?_
        refine rt_run 6 rfl ?_
        refine rt_cV (ci := 11) mX11_fromOf kX11_spreads_58 okX11_fromOf rfl rfl rfl rfl rfl ?_
        refine fromOf_spec hG' hlt (fun q' eq => ?_)
        rw [hq] at eq
        cases eq
        refine rt_ld q.1 rfl (n := 10) rfl b1 ?_
        refine rt_run 2 rfl ?_
        refine rt_cV (ci := 11) mX11_letterOf kX11_spreads_64 okX11_letterOf rfl rfl rfl rfl rfl ?_
        refine letterOf_spec hG' hlt (fun q' eq => ?_)
        rw [hq] at eq
        cases eq
        refine rt_cV (ci := 11) mX11_goes kX11_spreads_67 okX11_goes rfl rfl rfl rfl rfl ?_
        refine goes_spec (S := fr q.1) hx (by omega) hE' (by rw [(hO.1 78 (by decide)).1]; exact hfr q.1 b1) (fun r hr => ?_)
        refine rt_run 1 rfl ?_
        refine rt_st q.2.2 rfl (n := 10) rfl b3 ?_
        have hO1 : OfM [79] [] τ (sI τ' 79 q.2.2 (gI τ' 79 q.2.2 ||| r)) := hO.sI (by simp) _ _
        have hl1 : ∀ v, v < 10 → MB (gI (sI τ' 79 q.2.2 (gI τ' 79 q.2.2 ||| r)) 79 v) (fun i => hit (fwdN G w e ++ bwdN G w e) A fr v i || (decide (q.2.2 = v) && nxt A (fr q.1) i && A.2.1 q.2.1 i)) := by
          intro v hv j hj
          rw [gI_sI, if_pos rfl]
          by_cases hvq : v = q.2.2
          · subst hvq
            rw [pk_us, b_or, hl _ hv j hj, hr j hj]
            simp
          · rw [pk_un hvq, hl v hv j hj]
            have : ¬ q.2.2 = v := fun g => hvq g.symm
            simp [this]
        have hG1 := hG.of hO1 (by decide)
        have hE1 := hE.of hO1 (by decide)
        generalize sI τ' 79 q.2.2 (gI τ' 79 q.2.2 ||| r) = τ1 at hO1 hl1 hG1 hE1
        refine rt_run 4 rfl ?_
        refine rt_cV (ci := 11) mX11_fromOf kX11_spreads_78 okX11_fromOf rfl rfl rfl rfl rfl ?_
        refine fromOf_spec hG1 hlt (fun q' eq => ?_)
        rw [hq] at eq
        cases eq
        refine rt_run 1 rfl ?_
        refine rt_ld q.1 rfl (n := 10) rfl b1 ?_
        refine rt_run 6 rfl ?_
        refine rt_cV (ci := 11) mX11_toOf kX11_spreads_91 okX11_toOf rfl rfl rfl rfl rfl ?_
        refine toOf_spec hG1 hlt (fun q' eq => ?_)
        rw [hq] at eq
        cases eq
        refine rt_ld q.2.2 rfl (n := 10) rfl b3 ?_
        refine rt_run 2 rfl ?_
        refine rt_cV (ci := 11) mX11_letterOf kX11_spreads_97 okX11_letterOf rfl rfl rfl rfl rfl ?_
        refine letterOf_spec hG1 hlt (fun q' eq => ?_)
        rw [hq] at eq
        cases eq
        refine rt_run 2 rfl ?_
        rw [show nI q.2.1 + 4 = nI (q.2.1 + 4) from nI_add q.2.1 4]
        refine rt_cV (ci := 11) mX11_goes kX11_spreads_102 okX11_goes rfl rfl rfl rfl rfl ?_
        refine goes_spec (S := fr q.2.2) hx (by omega) hE1 (by rw [(hO1.1 78 (by decide)).1]; exact hfr q.2.2 b3) (fun r2 hr2 => ?_)
        refine rt_run 1 rfl ?_
        refine rt_st q.1 rfl (n := 10) rfl b1 ?_
        refine rt_run 2 rfl ?_
        rw [← nI_succ]
        refine ih (e + 1) _ (by omega) (hO1.sI (by simp) _ _) (fun v hv j hj => ?_)
        rw [hit_s A fr hq hwe, gI_sI, if_pos rfl]
        by_cases hvq : v = q.1
        · subst hvq
          rw [pk_us, b_or, hl1 _ hv j hj, hr2 j hj]
          simp
        · rw [pk_un hvq, hl1 v hv j hj]
          have : ¬ q.1 = v := fun g => hvq g.symm
          simp [this]
  have loop1 : ∀ d v τ', v + d = 10 → OfM [79] [] τ τ' → (∀ u, u < v → gI τ' 79 u = 0) → RT mX11_spreads none 2 [some (.ref 63), some (.int (nI x)), some (.int (nI v))] [] τ' Q := by
    intro d
    induction d with
    | zero =>
      intro v τ' hv hO hz
      refine rt_run 2 rfl ?_
      refine rt_ge v 10 rfl (by omega) (by omega) (fun _ => ?_) (fun _ => by omega)
      refine rt_run 2 rfl ?_
      refine loop2 G.length 0 τ' (by omega) hO (fun u hu j hj => ?_)
      rw [hz u (by omega), b_0]
      rfl
    | succ d ih =>
      intro v τ' hv hO hz
      refine rt_run 2 rfl ?_
      refine rt_ge v 10 rfl (by omega) (by omega) (fun _ => by omega) (fun _ => ?_)
      refine rt_run 4 rfl ?_
      refine rt_st v rfl (n := 10) rfl (by omega) ?_
      refine rt_run 2 rfl ?_
      rw [← nI_succ]
      refine ih (v + 1) _ (by omega) (hO.sI (by simp) _ _) (fun u hu => ?_)
      rw [gI_sI, if_pos rfl]
      by_cases huv : u = v
      · subst huv; rw [pk_us]
      · rw [pk_un huv]; exact hz u (by omega)
  refine rt_run 2 rfl ?_
  exact loop1 10 0 τ rfl (OfM.rf _ _ _) (fun u hu => by omega)
end MdFar
noncomputable def dB (P : Prop) : Bool := @decide P (Classical.propDecidable _)
theorem dB_iff {P : Prop} : dB P = true ↔ P := @decide_eq_true_iff _ (Classical.propDecidable _)
def SnP (L : SL) (A : AE) (u n w q : Nat) : Prop := ∃ m, m ≤ n ∧ Rch L A u m w q
def FrP (L : SL) (A : AE) (u n w q : Nat) : Prop := Rch L A u n w q ∧ ∀ m, m < n → ¬ Rch L A u m w q
noncomputable def frB (L : SL) (A : AE) (u n w q : Nat) : Bool := dB (FrP L A u n w q)
noncomputable def snB (L : SL) (A : AE) (u n w q : Nat) : Bool := dB (SnP L A u n w q)
theorem hit_fr {L : SL} {A : AE} {u n w q : Nat} (h : hit L A (frB L A u n) w q = true) : Rch L A u (n + 1) w q := by
  obtain ⟨st, h1, h2, ⟨p, h3, h4, h5⟩, h6⟩ := hit_iff.mp h
  exact ⟨st, h1, h2, ⟨p, (dB_iff.mp h4).1, h5⟩, h6⟩
theorem fr_hit {L : SL} {A : AE} {u n w q : Nat} (hL : StOk L) (hA : AEwf A) (hu : u < 10) (h : FrP L A u (n + 1) w q) : hit L A (frB L A u n) w q = true := by
  obtain ⟨⟨st, h1, h2, ⟨p, h3, h4⟩, h5⟩, h6⟩ := h
  refine hit_iff.mpr ⟨st, h1, h2, ⟨p, (Rch_lt hL hA hu h3).2, dB_iff.mpr ⟨h3, fun m hm hr => ?_⟩, h4⟩, h5⟩
  exact h6 (m + 1) (by omega) ⟨st, h1, h2, ⟨p, hr, h4⟩, h5⟩
theorem fr_next {L : SL} {A : AE} {u n : Nat} (hL : StOk L) (hA : AEwf A) (hu : u < 10) (w q : Nat) : frB L A u (n + 1) w q = (hit L A (frB L A u n) w q && !snB L A u n w q) := by
  rw [Bool.eq_iff_iff, Bool.and_eq_true, Bool.not_eq_true', Bool.eq_false_iff]
  unfold frB snB
  rw [dB_iff, Ne, dB_iff]
  constructor
  · intro h
    refine ⟨fr_hit hL hA hu h, ?_⟩
    rintro ⟨m, hm, hr⟩
    exact h.2 m (by omega) hr
  · rintro ⟨h1, h2⟩
    exact ⟨hit_fr h1, fun m hm hr => h2 ⟨m, by omega, hr⟩⟩
theorem sn_next {L : SL} {A : AE} {u n : Nat} (hL : StOk L) (hA : AEwf A) (hu : u < 10) (w q : Nat) : snB L A u (n + 1) w q = (snB L A u n w q || hit L A (frB L A u n) w q) := by
  rw [Bool.eq_iff_iff, Bool.or_eq_true]
  unfold snB
  rw [dB_iff, dB_iff]
  constructor
  · rintro ⟨m, hm, hr⟩
    by_cases hs : SnP L A u n w q
    · exact Or.inl hs
    · right
      have hmn : m = n + 1 := by
        by_cases g : m = n + 1
        · exact g
        · exact absurd ⟨m, by omega, hr⟩ hs
      subst hmn
      exact fr_hit hL hA hu ⟨hr, fun m' hm' hr' => hs ⟨m', by omega, hr'⟩⟩
  · rintro (⟨m, hm, hr⟩ | h)
    · exact ⟨m, by omega, hr⟩
    · exact ⟨n + 1, Nat.le_refl _, hit_fr h⟩
theorem sn_all {L : SL} {A : AE} {u n : Nat} (h : ∀ w q, ¬ FrP L A u (n + 1) w q) {m w q : Nat} (hr : Rch L A u m w q) : SnP L A u n w q := by
  induction m generalizing w q with
  | zero => exact ⟨0, Nat.zero_le _, hr⟩
  | succ m ih =>
    obtain ⟨st, h1, h2, ⟨p, h3, h4⟩, h5⟩ := hr
    obtain ⟨m', hm', hr'⟩ := ih h3
    have hr2 : Rch L A u (m' + 1) w q := ⟨st, h1, h2, ⟨p, hr', h4⟩, h5⟩
    by_cases hs : SnP L A u n w q
    · exact hs
    · exfalso
      have : m' + 1 = n + 1 := by
        by_cases g : m' + 1 ≤ n
        · exact absurd ⟨m' + 1, g, hr2⟩ hs
        · omega
      rw [this] at hr2
      exact h w q ⟨hr2, fun k hk hk2 => hs ⟨k, by omega, hk2⟩⟩
section MdFar2
variable {τ : Ty} {Q : Option Value → Ty → Prop} {G : Gr} {A : AE} {x u : Nat} {w : Option Nat}
theorem farOf_spec {v : Option Nat} (hx : x < 4) (hu : u < 10) (hv : ∀ y, v = some y → y < 10) (hG : MEd τ G) (hw : gF τ 63 32 = wI w) (hw2 : ∀ e, w = some e → e < 100) (hE : MEx τ x A)
    (h1 : ∀ y, v = some y → ∀ τ', OfM [78, 79, 80] [] τ τ' → Q (some (.int (wI (farO (stL G w) A u y)))) τ')
    (h2 : v = none → ∀ τ', OfM [78, 79, 80] [] τ τ' → (∀ y, y < 10 → MB (gI τ' 80 y) (fun q => dB (∃ m, Rch (stL G w) A u m y q))) → Q (some (.int (-1))) τ') :
    RT mX11_farOf none 0 [some (.ref 63), some (.int (nI x)), some (.int (nI u)), some (.int (wI v)), none, none, none] [] τ Q := by
  have hL := hG.ok w
  have hA := hE.2.2.2
  have main : ∀ d n τ' (x5 x6 : Option Value), n + d = 251 → OfM [78, 79, 80] [] τ τ' → (∀ y, y < 10 → MB (gI τ' 78 y) (frB (stL G w) A u n y)) → (∀ y, y < 10 → MB (gI τ' 80 y) (snB (stL G w) A u n y)) → n + 1 ≤ cntS (snB (stL G w) A u n) → (∀ y, v = some y → ∀ m q, m < n → Rch (stL G w) A u m y q → A.2.2.1 q = false) →
      RT mX11_farOf none 52 [some (.ref 63), some (.int (nI x)), some (.int (nI u)), some (.int (wI v)), some (.int (nI n)), x5, x6] [] τ' Q := by
    intro d
    induction d with
    | zero =>
      intro n τ' x5 x6 hn _ _ _ hc _
      have := cntS_le (snB (stL G w) A u n)
      omega
    | succ d ih =>
      intro n τ' x5 x6 hn hO hfr hsn hc hprev
      have hG' := hG.of hO (by decide)
      have hE' := hE.of hO (by decide)
      have hw' : gF τ' 63 32 = wI w := by rw [hO.2.2.1 32 (by decide)]; exact hw
      -- one level more
      have go : (∀ y, v = some y → ∀ m q, m < n + 1 → Rch (stL G w) A u m y q → A.2.2.1 q = false) → RT mX11_farOf none 83 [some (.ref 63), some (.int (nI x)), some (.int (nI u)), some (.int (wI v)), some (.int (nI n)), x5, x6] [] τ' Q := by
        intro hprev1
        refine rt_run 2 rfl ?_
        refine rt_cV (ci := 11) mX11_spreads kX11_farOf_85 okX11_spreads rfl rfl rfl rfl rfl ?_
        refine mspreads_spec (fr := frB (stL G w) A u n) hx hG' hw' hw2 hE' hfr (fun τ1 hO1 hl1 => ?_)
        have hOa : OfM [78, 79, 80] [] τ τ1 := hO.tr (hO1.up (by simp) (by simp))
        have fin : ∀ d2 y τ2 (more : Bool), y + d2 = 10 → OfM [78, 79, 80] [] τ τ2 → gI τ2 79 = gI τ1 79 → (∀ z, z < y → MB (gI τ2 78 z) (frB (stL G w) A u (n + 1) z) ∧ MB (gI τ2 80 z) (snB (stL G w) A u (n + 1) z)) → (∀ z, y ≤ z → z < 10 → MB (gI τ2 80 z) (snB (stL G w) A u n z)) → (more = true ↔ ∃ z q, z < y ∧ FrP (stL G w) A u (n + 1) z q) →
            RT mX11_farOf none 94 [some (.ref 63), some (.int (nI x)), some (.int (nI u)), some (.int (wI v)), some (.int (nI n)), some (.int (b01 more)), some (.int (nI y))] [] τ2 Q := by
          intro d2
          induction d2 with
          | zero =>
            intro y τ2 more hy hO2 h79 hdone hrest hmore
            have : y = 10 := by omega
            subst this
            refine rt_run 2 rfl ?_
            refine rt_ge 10 10 rfl (by omega) (by omega) (fun _ => ?_) (fun _ => by omega)
            refine rt_run 1 rfl ?_
            cases more with
            | false =>
              refine rt_if_ne rfl (fun hc => absurd rfl hc) (fun _ => ?_)
              refine rt_run 1 rfl ?_
              have hnone : ∀ z q, ¬ FrP (stL G w) A u (n + 1) z q := by
                intro z q hf
                have := (Rch_lt hL hA hu hf.1).1
                have := hmore.mpr ⟨z, q, by omega, hf⟩
                cases this
              cases hvv : v with
              | some y =>
                have hno : farO (stL G w) A u y = none := by
                  refine farO_no (fun m hb => ?_)
                  obtain ⟨q, r1, r2⟩ := Rch_run (k := 0) (w := u) (p := 0) ⟨rfl, rfl⟩ hb
                  obtain ⟨m', hm', hr'⟩ := sn_all hnone r1
                  rw [hprev1 y hvv m' q (by omega) hr'] at r2
                  cases r2
                have := h1 y hvv τ2 hO2
                rw [hno] at this
                exact rt_iret rfl rfl this
              | none =>
                refine rt_iret rfl rfl (h2 hvv τ2 hO2 (fun y hy j hj => ?_))
                rw [(hdone y hy).2 j hj, Bool.eq_iff_iff]
                unfold snB
                rw [dB_iff, dB_iff]
                constructor
                · rintro ⟨m, hm, hr⟩
                  exact ⟨m, hr⟩
                · rintro ⟨m, hr⟩
                  obtain ⟨m', hm', hr'⟩ := sn_all hnone hr
                  exact ⟨m', by omega, hr'⟩
            | true =>
              refine rt_if_ne rfl (fun _ => ?_) (fun hc => absurd hc (by decide))
              refine rt_run 2 rfl ?_
              rw [← nI_succ]
              obtain ⟨z, q, hz, hf⟩ := hmore.mp rfl
              refine ih (n + 1) τ2 _ _ (by omega) hO2 (fun y hy => (hdone y hy).1) (fun y hy => (hdone y hy).2) ?_ hprev1
              have hzq := Rch_lt hL hA hu hf.1
              have : cntS (snB (stL G w) A u n) < cntS (snB (stL G w) A u (n + 1)) := by
                refine countP_lt (fun p _ hp => ?_) (prs_mem hzq.1 hzq.2) ?_ ?_
                · rw [sn_next hL hA hu, hp]; rfl
                · rw [Bool.eq_false_iff]
                  intro hs
                  obtain ⟨m, hm, hr⟩ := dB_iff.mp hs
                  exact hf.2 m (by omega) hr
                · exact dB_iff.mpr ⟨n + 1, Nat.le_refl _, hf.1⟩
              omega
          | succ d2 ih2 =>
            intro y τ2 more hy hO2 h79 hdone hrest hmore
            refine rt_run 2 rfl ?_
            refine rt_ge y 10 rfl (by omega) (by omega) (fun _ => by omega) (fun _ => ?_)
            have hy10 : y < 10 := by omega
            have hly : MB (gI τ2 79 y) (hit (stL G w) A (frB (stL G w) A u n) y) := by rw [h79]; exact hl1 y hy10
            have hsy := hrest y (Nat.le_refl _) hy10
            refine rt_run 6 rfl ?_
            refine rt_ld y rfl (n := 10) rfl hy10 ?_
            refine rt_run 3 rfl ?_
            refine rt_ld y rfl (n := 10) rfl hy10 ?_
            refine rt_run 3 rfl ?_
            refine rt_st y rfl (n := 10) rfl hy10 ?_
            refine rt_run 4 rfl ?_
            refine rt_ld y rfl (n := 10) rfl hy10 ?_
            refine rt_run 3 rfl ?_
            refine rt_ld y rfl (n := 10) rfl hy10 ?_
            refine rt_run 1 rfl ?_
            refine rt_st y rfl (n := 10) rfl hy10 ?_
            have hnb : MB (gI τ2 79 y &&& (gI τ2 80 y ^^^ -1)) (frB (stL G w) A u (n + 1) y) := by
              intro j hj
              rw [b_and, b_not hj, hly j hj, hsy j hj, fr_next hL hA hu]
            have hns : MB (gI τ2 80 y ||| gI τ2 79 y) (snB (stL G w) A u (n + 1) y) := by
              intro j hj
              rw [b_or, hly j hj, hsy j hj, sn_next hL hA hu]
            have e78 : gI (sI (sI τ2 78 y (gI τ2 79 y &&& (gI τ2 80 y ^^^ -1))) 80 y (gI τ2 80 y ||| gI τ2 79 y)) 78 = upd (gI τ2 78) y (gI τ2 79 y &&& (gI τ2 80 y ^^^ -1)) := rfl
            have e80 : gI (sI (sI τ2 78 y (gI τ2 79 y &&& (gI τ2 80 y ^^^ -1))) 80 y (gI τ2 80 y ||| gI τ2 79 y)) 80 = upd (gI τ2 80) y (gI τ2 80 y ||| gI τ2 79 y) := rfl
            have e79 : gI (sI (sI τ2 78 y (gI τ2 79 y &&& (gI τ2 80 y ^^^ -1))) 80 y (gI τ2 80 y ||| gI τ2 79 y)) 79 = gI τ2 79 := rfl
            have hO3 : OfM [78, 79, 80] [] τ (sI (sI τ2 78 y (gI τ2 79 y &&& (gI τ2 80 y ^^^ -1))) 80 y (gI τ2 80 y ||| gI τ2 79 y)) := (hO2.sI (by simp) _ _).sI (by simp) _ _
            have next : ∀ more', (more' = true ↔ ∃ z q, z < y + 1 ∧ FrP (stL G w) A u (n + 1) z q) → RT mX11_farOf none 94 [some (.ref 63), some (.int (nI x)), some (.int (nI u)), some (.int (wI v)), some (.int (nI n)), some (.int (b01 more')), some (.int (nI y + 1))] [] (sI (sI τ2 78 y (gI τ2 79 y &&& (gI τ2 80 y ^^^ -1))) 80 y (gI τ2 80 y ||| gI τ2 79 y)) Q := by
              intro more' hm'
              rw [← nI_succ]
              refine ih2 (y + 1) _ more' (by omega) hO3 (by rw [e79]; exact h79) (fun z hz => ?_) (fun z hz hz10 => ?_) hm'
              · rw [e78, e80]
                by_cases hzy : z = y
                · subst hzy
                  rw [pk_us, pk_us]
                  exact ⟨hnb, hns⟩
                · rw [pk_un hzy, pk_un hzy]
                  exact hdone z (by omega)
              · rw [e80, pk_un (by omega)]
                exact hrest z (by omega) hz10
            have yes : (∃ z q, z < y + 1 ∧ FrP (stL G w) A u (n + 1) z q) → ∀ z5, RT mX11_farOf none 157 [some (.ref 63), some (.int (nI x)), some (.int (nI u)), some (.int (wI v)), some (.int (nI n)), some (.int z5), some (.int (nI y))] [] (sI (sI τ2 78 y (gI τ2 79 y &&& (gI τ2 80 y ^^^ -1))) 80 y (gI τ2 80 y ||| gI τ2 79 y)) Q := by
              intro hex z5
              refine rt_run 2 rfl ?_
              refine rt_run 3 rfl ?_
              exact next true ⟨fun _ => hex, fun _ => rfl⟩
            refine rt_run 1 rfl ?_
            cases more with
            | true =>
              obtain ⟨z, q, hz, hf⟩ := hmore.mp rfl
              exact rt_if_ne rfl (fun _ => yes ⟨z, q, by omega, hf⟩ _) (fun hc => absurd hc (by decide))
            | false =>
              have hnm : ∀ z q, z < y → ¬ FrP (stL G w) A u (n + 1) z q := by
                intro z q hz hf
                have := hmore.mpr ⟨z, q, hz, hf⟩
                cases this
              refine rt_if_ne rfl (fun hc => absurd rfl hc) (fun _ => ?_)
              refine rt_run 3 rfl ?_
              refine rt_ld y rfl (n := 10) rfl hy10 ?_
              have ey : gI (sI (sI τ2 78 y (gI τ2 79 y &&& (gI τ2 80 y ^^^ -1))) 80 y (gI τ2 80 y ||| gI τ2 79 y)) 78 y = gI τ2 79 y &&& (gI τ2 80 y ^^^ -1) := by rw [e78, pk_us]
              refine rt_if_eq rfl (fun hz0 => ?_) (fun hz0 => ?_)
              · have hz : gI τ2 79 y &&& (gI τ2 80 y ^^^ -1) = 0 := ey.symm.trans hz0
                refine rt_run 1 rfl ?_
                refine rt_run 3 rfl ?_
                refine next false ⟨(fun hc => by cases hc), ?_⟩
                rintro ⟨z, q, hz1, hf⟩
                exfalso
                by_cases hzy : z = y
                · subst hzy
                  have hq := (Rch_lt hL hA hu hf.1).2
                  obtain ⟨g1, g2⟩ := qm_pm hq
                  have := hnb (pmI q) (by omega)
                  rw [hz, b_0, g1] at this
                  rw [show frB (stL G w) A u (n + 1) z q = true from dB_iff.mpr hf] at this
                  cases this
                · exact hnm z q (by omega) hf
              · have hz : ¬ gI τ2 79 y &&& (gI τ2 80 y ^^^ -1) = 0 := fun g => hz0 (ey.trans g)
                refine yes ?_ _
                by_cases hh : ∃ j, j < 32 ∧ bt (gI τ2 79 y &&& (gI τ2 80 y ^^^ -1)) j = true
                · obtain ⟨j, hj, hb⟩ := hh
                  rw [hnb j hj] at hb
                  exact ⟨y, qm j, by omega, dB_iff.mp hb⟩
                · exfalso
                  refine hz (b_zero.mpr (fun j hj => ?_))
                  cases hb : bt (gI τ2 79 y &&& (gI τ2 80 y ^^^ -1)) j with
                  | false => rfl
                  | true => exact absurd ⟨j, hj, hb⟩ hh
        refine rt_run 4 rfl ?_
        refine fin 10 0 τ1 false rfl hOa rfl (fun z hz => by omega) (fun z _ hz => ?_) ⟨fun hc => (by cases hc), ?_⟩
        · rw [(hO1.1 80 (by decide)).1]; exact hsn z hz
        · rintro ⟨z, q, hz, -⟩
          omega
      refine rt_run 2 rfl ?_
      refine rt_ge n 260 rfl (by omega) (by omega) (fun _ => by omega) (fun _ => ?_)
      refine rt_run 1 rfl ?_
      cases hvv : v with
      | none =>
        rw [hvv] at go
        refine rt_if_lt rfl (fun _ => ?_) (fun hc => absurd (show wI none < 0 by decide) hc)
        exact go (fun y hy => by cases hy)
      | some y =>
        rw [hvv] at go
        have hy := hv y hvv
        refine rt_if_lt rfl (fun hc => absurd hc (nI_pos (n := y) (by omega))) (fun _ => ?_)
        refine rt_run 3 rfl ?_
        refine rt_ld y rfl (n := 10) rfl hy ?_
        refine rt_run 3 rfl ?_
        refine rt_ld x rfl (n := 4) rfl hx ?_
        refine rt_run 1 rfl ?_
        have hbit : ∀ j, j < 32 → bt (gI τ' 78 y &&& gI τ' 70 x) j = (frB (stL G w) A u n y (qm j) && A.2.2.1 (qm j)) := by
          intro j hj
          rw [b_and, hfr y hy j hj, hE'.2.2.1 j hj]
        refine rt_if_eq rfl (fun hz => ?_) (fun hz => ?_)
        · refine go (fun y' hy' m q hm hr => ?_)
          cases hy'
          by_cases hmn : m < n
          · exact hprev y hvv m q hmn hr
          · have : m = n := by omega
            subst this
            cases hl : A.2.2.1 q with
            | false => rfl
            | true =>
              exfalso
              have hfq : FrP (stL G w) A u m y q := ⟨hr, fun m' hm' hr' => by rw [hprev y hvv m' q hm' hr'] at hl; cases hl⟩
              have hq := (Rch_lt hL hA hu hr).2
              obtain ⟨g1, g2⟩ := qm_pm hq
              have := hbit (pmI q) (by omega)
              rw [hz, b_0, g1, hl, show frB (stL G w) A u m y q = true from dB_iff.mpr hfq] at this
              cases this
        · refine rt_run 1 rfl ?_
          have hh : ∃ j, j < 32 ∧ bt (gI τ' 78 y &&& gI τ' 70 x) j = true := by
            by_cases hh : ∃ j, j < 32 ∧ bt (gI τ' 78 y &&& gI τ' 70 x) j = true
            · exact hh
            · exfalso
              refine hz (b_zero.mpr (fun j hj => ?_))
              cases hb : bt (gI τ' 78 y &&& gI τ' 70 x) j with
              | false => rfl
              | true => exact absurd ⟨j, hj, hb⟩ hh
          obtain ⟨j, hj, hb⟩ := hh
          rw [hbit j hj, Bool.and_eq_true] at hb
          have hlev : Lev (stL G w) A y n u 0 := by
            refine ⟨?_, fun m hm hb2 => ?_⟩
            · have := Rch_Bk (dB_iff.mp hb.1).1 (show Bk (stL G w) A y 0 y (qm j) from ⟨rfl, hb.2⟩)
              exact this
            · obtain ⟨q, r1, r2⟩ := Rch_run (k := 0) (w := u) (p := 0) ⟨rfl, rfl⟩ hb2
              rw [Nat.zero_add] at r1
              rw [hprev y hvv m q hm r1] at r2
              cases r2
          have := h1 y hvv τ' hO
          rw [farO_so hlev] at this
          exact rt_iret rfl rfl this
  have loop0 : ∀ d y τ', y + d = 10 → OfM [78, 79, 80] [] τ τ' → (∀ z, z < y → MB (gI τ' 78 z) (frB (stL G w) A u 0 z) ∧ MB (gI τ' 80 z) (snB (stL G w) A u 0 z)) → RT mX11_farOf none 3 [some (.ref 63), some (.int (nI x)), some (.int (nI u)), some (.int (wI v)), some (.int (nI y)), none, none] [] τ' Q := by
    intro d
    induction d with
    | zero =>
      intro y τ' hy hO hd
      refine rt_run 2 rfl ?_
      refine rt_ge y 10 rfl (by omega) (by omega) (fun _ => ?_) (fun _ => by omega)
      refine rt_run 2 rfl ?_
      refine main 251 0 τ' none none rfl hO (fun z hz => (hd z (by omega)).1) (fun z hz => (hd z (by omega)).2) ?_ (fun y hy m q hm => by omega)
      have : 0 < cntS (snB (stL G w) A u 0) := List.countP_pos_iff.mpr ⟨(u, 0), prs_mem hu (by omega), dB_iff.mpr ⟨0, Nat.le_refl _, rfl, rfl⟩⟩
      omega
    | succ d ih =>
      intro y τ' hy hO hd
      have e0 : ∀ q, frB (stL G w) A u 0 y q = decide (y = u ∧ q = 0) := by
        intro q
        rw [Bool.eq_iff_iff, decide_eq_true_iff]
        unfold frB
        rw [dB_iff]
        exact ⟨fun h => h.1, fun h => ⟨h, fun m hm => by omega⟩⟩
      have e0' : ∀ q, snB (stL G w) A u 0 y q = decide (y = u ∧ q = 0) := by
        intro q
        rw [Bool.eq_iff_iff, decide_eq_true_iff]
        unfold snB
        rw [dB_iff]
        constructor
        · rintro ⟨m, hm, hr⟩
          have : m = 0 := by omega
          subst this
          exact hr
        · intro h
          exact ⟨0, Nat.le_refl _, h⟩
      have bits24 : ∀ j, j < 32 → bt (16777216 : Int32) j = decide (qm j = 0) := by decide +kernel
      have store : ∀ z : Int32, (∀ j, j < 32 → bt z j = decide (y = u ∧ qm j = 0)) → RT mX11_farOf none 28 [some (.ref 63), some (.int (nI x)), some (.int (nI u)), some (.int (wI v)), some (.int (nI y)), none, none] [.int z, .int (nI y), .ref 78] τ' Q := by
        intro z hz
        refine rt_st y rfl (n := 10) rfl (by omega) ?_
        refine rt_run 6 rfl ?_
        refine rt_ld y rfl (n := 10) rfl (by omega) ?_
        refine rt_st y rfl (n := 10) rfl (by omega) ?_
        refine rt_run 2 rfl ?_
        rw [← nI_succ]
        refine ih (y + 1) _ (by omega) ((hO.sI (by simp) _ _).sI (by simp) _ _) (fun s hs => ?_)
        have e78 : gI (sI (sI τ' 78 y z) 80 y (gI (sI τ' 78 y z) 78 y)) 78 = upd (gI τ' 78) y z := rfl
        have e80 : gI (sI (sI τ' 78 y z) 80 y (gI (sI τ' 78 y z) 78 y)) 80 = upd (gI τ' 80) y (upd (gI τ' 78) y z y) := rfl
        rw [e78, e80]
        by_cases hsy : s = y
        · subst hsy
          rw [pk_us, pk_us]
          exact ⟨fun j hj => by rw [e0, hz j hj], fun j hj => by rw [e0', hz j hj]⟩
        · rw [pk_un hsy, pk_un hsy]
          exact hd s (by omega)
      refine rt_run 2 rfl ?_
      refine rt_ge y 10 rfl (by omega) (by omega) (fun _ => by omega) (fun _ => ?_)
      refine rt_run 5 rfl ?_
      refine rt_ne y u rfl (by omega) (by omega) (fun hne => ?_) (fun heq => ?_)
      · refine rt_run 1 rfl ?_
        exact store 0 (fun j hj => by rw [b_0]; simp [hne])
      · refine rt_run 2 rfl ?_
        exact store _ (fun j hj => by rw [bits24 j hj]; simp [heq])
  refine rt_run 2 rfl ?_
  exact loop0 10 0 τ rfl (OfM.rf _ _ _) (fun z hz => by omega)
theorem endsOf_spec (hx : x < 4) (hu : u < 10) (hG : MEd τ G) (hw : gF τ 63 32 = wI w) (hw2 : ∀ e, w = some e → e < 100) (hE : MEx τ x A)
    (h : ∀ τ', OfM [78, 79, 80] [] τ τ' → Q (some (.int (vb (ansB (stL G w) A u) 10))) τ') : RT mX11_endsOf none 0 [some (.ref 63), some (.int (nI x)), some (.int (nI u)), none, none] [] τ Q := by
  refine rt_run 4 rfl ?_
  refine rt_cV (ci := 11) mX11_farOf kX11_endsOf_4 okX11_farOf rfl rfl rfl rfl rfl ?_
  refine farOf_spec (v := none) hx hu (fun y hy => by cases hy) hG hw hw2 hE (fun y hy => by cases hy) (fun _ τ1 hO1 hsn => ?_)
  have hE1 := hE.of hO1 (by decide)
  have hL := hG.ok w
  have loop : ∀ d v, v + d = 10 → RT mX11_endsOf none 13 [some (.ref 63), some (.int (nI x)), some (.int (nI u)), some (.int (vb (ansB (stL G w) A u) v)), some (.int (nI v))] [] τ1 Q := by
    intro d
    induction d with
    | zero =>
      intro v hv
      have : v = 10 := by omega
      subst this
      refine rt_run 2 rfl ?_
      refine rt_ge 10 10 rfl (by omega) (by omega) (fun _ => ?_) (fun _ => by omega)
      refine rt_run 1 rfl ?_
      exact rt_iret rfl rfl (h τ1 hO1)
    | succ d ih =>
      intro v hv
      refine rt_run 2 rfl ?_
      refine rt_ge v 10 rfl (by omega) (by omega) (fun _ => by omega) (fun _ => ?_)
      have hih := ih (v + 1) (by omega)
      rw [nI_succ] at hih
      unfold vb at hih
      refine rt_run 4 rfl ?_
      refine rt_ld v rfl (n := 10) rfl (by omega) ?_
      refine rt_run 3 rfl ?_
      refine rt_ld x rfl (n := 4) rfl hx ?_
      refine rt_run 1 rfl ?_
      have hbit : ∀ j, j < 32 → bt (gI τ1 80 v &&& gI τ1 70 x) j = (dB (∃ m, Rch (stL G w) A u m v (qm j)) && A.2.2.1 (qm j)) := by
        intro j hj
        rw [b_and, hsn v (by omega) j hj, hE1.2.2.1 j hj]
      refine rt_if_eq rfl (fun hz => ?_) (fun hz => ?_)
      · have : ansB (stL G w) A u v = false := by
          rw [Bool.eq_false_iff]
          intro ha
          obtain ⟨m, q, r1, r2⟩ := ansB_iff.mp ha
          have hq := (Rch_lt hL hE.2.2.2 hu r1).2
          obtain ⟨g1, g2⟩ := qm_pm hq
          have := hbit (pmI q) (by omega)
          rw [hz, b_0, g1, r2, dB_iff.mpr ⟨m, r1⟩] at this
          cases this
        rw [this, if_neg (by decide)] at hih
        refine rt_run 1 rfl ?_
        refine rt_run 4 rfl ?_
        rw [Int32.or_zero]
        exact hih
      · have : ansB (stL G w) A u v = true := by
          by_cases hh : ∃ j, j < 32 ∧ bt (gI τ1 80 v &&& gI τ1 70 x) j = true
          · obtain ⟨j, hj, hb⟩ := hh
            rw [hbit j hj, Bool.and_eq_true] at hb
            obtain ⟨m, hm⟩ := dB_iff.mp hb.1
            exact ansB_iff.mpr ⟨m, qm j, hm, hb.2⟩
          · exfalso
            refine hz (b_zero.mpr (fun j hj => ?_))
            cases hb : bt (gI τ1 80 v &&& gI τ1 70 x) j with
            | false => rfl
            | true => exact absurd ⟨j, hj, hb⟩ hh
        rw [this, if_pos rfl] at hih
        refine rt_run 4 rfl ?_
        refine rt_run 4 rfl ?_
        exact hih
  refine rt_run 5 rfl ?_
  exact loop 10 0 rfl
end MdFar2
end
