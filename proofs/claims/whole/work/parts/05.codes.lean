set_option maxRecDepth 30000 in
theorem w0164 : (Jvm.Cond.code ({ cls := "LockWatch", name := "<init>", desc := "()V" } : Jvm.MethodName) prog_1_method_1_code (1 : Nat) (Option.none : Option Jvm.ClassFile.FieldType)) ∈ lw_tbl := List.mem_of_getElem? (i := 164) rfl
set_option maxRecDepth 30000 in
theorem w0167 : (Jvm.Cond.code ({ cls := "java/lang/Object", name := "<init>", desc := "()V" } : Jvm.MethodName) object_method_1_code (1 : Nat) (Option.none : Option Jvm.ClassFile.FieldType)) ∈ lw_tbl := List.mem_of_getElem? (i := 167) rfl
set_option maxRecDepth 30000 in
theorem w0172 : (Jvm.Cond.code ({ cls := "LockWatch$Reader", name := "<init>", desc := "()V" } : Jvm.MethodName) prog_8_method_1_code (1 : Nat) (Option.none : Option Jvm.ClassFile.FieldType)) ∈ lw_tbl := List.mem_of_getElem? (i := 172) rfl
set_option maxRecDepth 30000 in
theorem w0222 : (Jvm.Cond.code ({ cls := "LockWatch$Plan", name := "<init>", desc := "()V" } : Jvm.MethodName) prog_7_method_1_code (1 : Nat) (Option.none : Option Jvm.ClassFile.FieldType)) ∈ lw_tbl := List.mem_of_getElem? (i := 222) rfl
set_option maxRecDepth 30000 in
theorem w0271 : (Jvm.Cond.code ({ cls := "LockWatch$History", name := "<init>", desc := "()V" } : Jvm.MethodName) prog_4_method_1_code (1 : Nat) (Option.none : Option Jvm.ClassFile.FieldType)) ∈ lw_tbl := List.mem_of_getElem? (i := 271) rfl
set_option maxRecDepth 30000 in
theorem w0278 : (Jvm.Cond.code ({ cls := "LockWatch$Learnt", name := "<init>", desc := "()V" } : Jvm.MethodName) prog_5_method_1_code (1 : Nat) (Option.none : Option Jvm.ClassFile.FieldType)) ∈ lw_tbl := List.mem_of_getElem? (i := 278) rfl
set_option maxRecDepth 30000 in
theorem w0284 : (Jvm.Cond.code ({ cls := "LockWatch$Graph", name := "<init>", desc := "()V" } : Jvm.MethodName) prog_3_method_1_code (1 : Nat) (Option.none : Option Jvm.ClassFile.FieldType)) ∈ lw_tbl := List.mem_of_getElem? (i := 284) rfl
set_option maxRecDepth 30000 in
theorem w0309 : (Jvm.Cond.code ({ cls := "LockWatch$Reports", name := "<init>", desc := "()V" } : Jvm.MethodName) prog_9_method_1_code (1 : Nat) (Option.none : Option Jvm.ClassFile.FieldType)) ∈ lw_tbl := List.mem_of_getElem? (i := 309) rfl
set_option maxRecDepth 30000 in
theorem w0394 : (Jvm.Cond.code ({ cls := "LockWatch$Ways", name := "<init>", desc := "()V" } : Jvm.MethodName) prog_12_method_1_code (1 : Nat) (Option.none : Option Jvm.ClassFile.FieldType)) ∈ lw_tbl := List.mem_of_getElem? (i := 394) rfl
set_option maxRecDepth 30000 in
theorem w0419 : (Jvm.Cond.code ({ cls := "LockWatch$Watch", name := "<init>", desc := "()V" } : Jvm.MethodName) prog_11_method_1_code (1 : Nat) (Option.none : Option Jvm.ClassFile.FieldType)) ∈ lw_tbl := List.mem_of_getElem? (i := 419) rfl
set_option maxRecDepth 30000 in
theorem w0458 : (Jvm.Cond.code ({ cls := "LockWatch$Mender", name := "<init>", desc := "()V" } : Jvm.MethodName) prog_6_method_1_code (1 : Nat) (Option.none : Option Jvm.ClassFile.FieldType)) ∈ lw_tbl := List.mem_of_getElem? (i := 458) rfl
set_option maxRecDepth 30000 in
theorem w0487 : (Jvm.Cond.code ({ cls := "LockWatch$Found", name := "<init>", desc := "()V" } : Jvm.MethodName) prog_2_method_1_code (1 : Nat) (Option.none : Option Jvm.ClassFile.FieldType)) ∈ lw_tbl := List.mem_of_getElem? (i := 487) rfl
set_option maxRecDepth 30000 in
theorem w0567 : (Jvm.Cond.code ({ cls := "LockWatch", name := "feed", desc := "(IIIII)I" } : Jvm.MethodName) prog_1_method_2_code (6 : Nat) (Option.some Jvm.ClassFile.FieldType.int)) ∈ lw_tbl := List.mem_of_getElem? (i := 567) rfl
set_option maxRecDepth 30000 in
theorem w0571 : (Jvm.Cond.code ({ cls := "LockWatch", name := "putNumber", desc := "(I)V" } : Jvm.MethodName) prog_1_method_37_code (3 : Nat) (Option.none : Option Jvm.ClassFile.FieldType)) ∈ lw_tbl := List.mem_of_getElem? (i := 571) rfl
set_option maxRecDepth 30000 in
theorem w0575 : (Jvm.Cond.code ({ cls := "LockWatch", name := "end", desc := "(I)I" } : Jvm.MethodName) prog_1_method_3_code (2 : Nat) (Option.some Jvm.ClassFile.FieldType.int)) ∈ lw_tbl := List.mem_of_getElem? (i := 575) rfl
set_option maxRecDepth 30000 in
theorem w0579 : (Jvm.Cond.code ({ cls := "LockWatch", name := "store", desc := "()I" } : Jvm.MethodName) prog_1_method_4_code (3 : Nat) (Option.some Jvm.ClassFile.FieldType.int)) ∈ lw_tbl := List.mem_of_getElem? (i := 579) rfl
set_option maxRecDepth 30000 in
theorem w0583 : (Jvm.Cond.code ({ cls := "LockWatch$Reader", name := "read", desc := "([BILLockWatch$Plan;)V" } : Jvm.MethodName) prog_8_method_2_code (5 : Nat) (Option.none : Option Jvm.ClassFile.FieldType)) ∈ lw_tbl := List.mem_of_getElem? (i := 583) rfl
set_option maxRecDepth 30000 in
theorem w0586 : (Jvm.Cond.code ({ cls := "java/lang/Math", name := "min", desc := "(II)I" } : Jvm.MethodName) prog_17_method_69_code (2 : Nat) (Option.some Jvm.ClassFile.FieldType.int)) ∈ lw_tbl := List.mem_of_getElem? (i := 586) rfl
set_option maxRecDepth 30000 in
theorem w0590 : (Jvm.Cond.code ({ cls := "LockWatch$Plan", name := "clear", desc := "()V" } : Jvm.MethodName) prog_7_method_2_code (1 : Nat) (Option.none : Option Jvm.ClassFile.FieldType)) ∈ lw_tbl := List.mem_of_getElem? (i := 590) rfl
set_option maxRecDepth 30000 in
theorem w0593 : (Jvm.Cond.code ({ cls := "java/util/Arrays", name := "fill", desc := "([II)V" } : Jvm.MethodName) prog_22_method_103_code (4 : Nat) (Option.none : Option Jvm.ClassFile.FieldType)) ∈ lw_tbl := List.mem_of_getElem? (i := 593) rfl
set_option maxRecDepth 30000 in
theorem w0597 : (Jvm.Cond.code ({ cls := "LockWatch$Reader", name := "nextToken", desc := "()V" } : Jvm.MethodName) prog_8_method_13_code (1 : Nat) (Option.none : Option Jvm.ClassFile.FieldType)) ∈ lw_tbl := List.mem_of_getElem? (i := 597) rfl
set_option maxRecDepth 30000 in
theorem w0600 : (Jvm.Cond.code ({ cls := "LockWatch$Reader", name := "isLetter", desc := "(B)Z" } : Jvm.MethodName) prog_8_method_14_code (1 : Nat) (Option.some Jvm.ClassFile.FieldType.boolean)) ∈ lw_tbl := List.mem_of_getElem? (i := 600) rfl
set_option maxRecDepth 30000 in
theorem w0604 : (Jvm.Cond.code ({ cls := "LockWatch$Reader", name := "wordNumber", desc := "()I" } : Jvm.MethodName) prog_8_method_15_code (7 : Nat) (Option.some Jvm.ClassFile.FieldType.int)) ∈ lw_tbl := List.mem_of_getElem? (i := 604) rfl
set_option maxRecDepth 30000 in
theorem w0609 : (Jvm.Cond.code ({ cls := "java/lang/String", name := "length", desc := "()I" } : Jvm.MethodName) prog_18_method_54_code (1 : Nat) (Option.some Jvm.ClassFile.FieldType.int)) ∈ lw_tbl := List.mem_of_getElem? (i := 609) rfl
set_option maxRecDepth 30000 in
theorem w0613 : (Jvm.Cond.code ({ cls := "java/lang/String", name := "coder", desc := "()B" } : Jvm.MethodName) prog_18_method_152_code (1 : Nat) (Option.some Jvm.ClassFile.FieldType.byte)) ∈ lw_tbl := List.mem_of_getElem? (i := 613) rfl
set_option maxRecDepth 30000 in
theorem w0619 : (Jvm.Cond.code ({ cls := "java/lang/String", name := "charAt", desc := "(I)C" } : Jvm.MethodName) prog_18_method_56_code (2 : Nat) (Option.some Jvm.ClassFile.FieldType.char)) ∈ lw_tbl := List.mem_of_getElem? (i := 619) rfl
set_option maxRecDepth 30000 in
theorem w0623 : (Jvm.Cond.code ({ cls := "java/lang/String", name := "isLatin1", desc := "()Z" } : Jvm.MethodName) prog_18_method_154_code (1 : Nat) (Option.some Jvm.ClassFile.FieldType.boolean)) ∈ lw_tbl := List.mem_of_getElem? (i := 623) rfl
set_option maxRecDepth 30000 in
theorem w0626 : (Jvm.Cond.code ({ cls := "java/lang/StringLatin1", name := "charAt", desc := "([BI)C" } : Jvm.MethodName) prog_19_method_2_code (2 : Nat) (Option.some Jvm.ClassFile.FieldType.char)) ∈ lw_tbl := List.mem_of_getElem? (i := 626) rfl
set_option maxRecDepth 30000 in
theorem w0629 : (Jvm.Cond.code ({ cls := "java/lang/String", name := "checkIndex", desc := "(II)V" } : Jvm.MethodName) prog_18_method_155_code (2 : Nat) (Option.none : Option Jvm.ClassFile.FieldType)) ∈ lw_tbl := List.mem_of_getElem? (i := 629) rfl
set_option maxRecDepth 30000 in
theorem w0634 : (Jvm.Cond.code ({ cls := "jdk/internal/util/Preconditions", name := "checkIndex", desc := "(IILjava/util/function/BiFunction;)I" } : Jvm.MethodName) prog_23_method_11_code (3 : Nat) (Option.some Jvm.ClassFile.FieldType.int)) ∈ lw_tbl := List.mem_of_getElem? (i := 634) rfl
set_option maxRecDepth 30000 in
theorem w0637 : (Jvm.Cond.code ({ cls := "java/lang/StringUTF16", name := "charAt", desc := "([BI)C" } : Jvm.MethodName) prog_20_method_83_code (2 : Nat) (Option.some Jvm.ClassFile.FieldType.char)) ∈ lw_tbl := List.mem_of_getElem? (i := 637) rfl
set_option maxRecDepth 30000 in
theorem w0640 : (Jvm.Cond.code ({ cls := "java/lang/StringUTF16", name := "checkIndex", desc := "(I[B)V" } : Jvm.MethodName) prog_20_method_91_code (2 : Nat) (Option.none : Option Jvm.ClassFile.FieldType)) ∈ lw_tbl := List.mem_of_getElem? (i := 640) rfl
set_option maxRecDepth 30000 in
theorem w0643 : (Jvm.Cond.code ({ cls := "java/lang/StringUTF16", name := "length", desc := "([B)I" } : Jvm.MethodName) prog_20_method_6_code (1 : Nat) (Option.some Jvm.ClassFile.FieldType.int)) ∈ lw_tbl := List.mem_of_getElem? (i := 643) rfl
set_option maxRecDepth 30000 in
theorem w0647 : (Jvm.Cond.code ({ cls := "java/lang/StringUTF16", name := "getChar", desc := "([BI)C" } : Jvm.MethodName) prog_20_method_5_code (2 : Nat) (Option.some Jvm.ClassFile.FieldType.char)) ∈ lw_tbl := List.mem_of_getElem? (i := 647) rfl
set_option maxRecDepth 30000 in
theorem w0657 : (Jvm.Cond.code ({ cls := "LockWatch$Reader", name := "readKind", desc := "()V" } : Jvm.MethodName) prog_8_method_3_code (1 : Nat) (Option.none : Option Jvm.ClassFile.FieldType)) ∈ lw_tbl := List.mem_of_getElem? (i := 657) rfl
set_option maxRecDepth 30000 in
theorem w0661 : (Jvm.Cond.code ({ cls := "LockWatch$Reader", name := "fail", desc := "(I)V" } : Jvm.MethodName) prog_8_method_12_code (2 : Nat) (Option.none : Option Jvm.ClassFile.FieldType)) ∈ lw_tbl := List.mem_of_getElem? (i := 661) rfl
set_option maxRecDepth 30000 in
theorem w0665 : (Jvm.Cond.code ({ cls := "LockWatch$Reader", name := "tellName", desc := "(II)Z" } : Jvm.MethodName) prog_8_method_7_code (3 : Nat) (Option.some Jvm.ClassFile.FieldType.boolean)) ∈ lw_tbl := List.mem_of_getElem? (i := 665) rfl
set_option maxRecDepth 30000 in
theorem w0669 : (Jvm.Cond.code ({ cls := "LockWatch$Reader", name := "findName", desc := "()I" } : Jvm.MethodName) prog_8_method_9_code (2 : Nat) (Option.some Jvm.ClassFile.FieldType.int)) ∈ lw_tbl := List.mem_of_getElem? (i := 669) rfl
set_option maxRecDepth 30000 in
theorem w0673 : (Jvm.Cond.code ({ cls := "LockWatch$Reader", name := "isName", desc := "(I)Z" } : Jvm.MethodName) prog_8_method_10_code (4 : Nat) (Option.some Jvm.ClassFile.FieldType.boolean)) ∈ lw_tbl := List.mem_of_getElem? (i := 673) rfl
set_option maxRecDepth 30000 in
theorem w0677 : (Jvm.Cond.code ({ cls := "LockWatch$Reader", name := "pass", desc := "(I)Z" } : Jvm.MethodName) prog_8_method_11_code (2 : Nat) (Option.some Jvm.ClassFile.FieldType.boolean)) ∈ lw_tbl := List.mem_of_getElem? (i := 677) rfl
set_option maxRecDepth 30000 in
theorem w0681 : (Jvm.Cond.code ({ cls := "LockWatch$Reader", name := "readLock", desc := "()V" } : Jvm.MethodName) prog_8_method_4_code (2 : Nat) (Option.none : Option Jvm.ClassFile.FieldType)) ∈ lw_tbl := List.mem_of_getElem? (i := 681) rfl
set_option maxRecDepth 30000 in
theorem w0685 : (Jvm.Cond.code ({ cls := "LockWatch$Reader", name := "knownName", desc := "(I)I" } : Jvm.MethodName) prog_8_method_8_code (3 : Nat) (Option.some Jvm.ClassFile.FieldType.int)) ∈ lw_tbl := List.mem_of_getElem? (i := 685) rfl
set_option maxRecDepth 30000 in
theorem w0689 : (Jvm.Cond.code ({ cls := "LockWatch$Reader", name := "readProgram", desc := "()V" } : Jvm.MethodName) prog_8_method_5_code (3 : Nat) (Option.none : Option Jvm.ClassFile.FieldType)) ∈ lw_tbl := List.mem_of_getElem? (i := 689) rfl
set_option maxRecDepth 30000 in
theorem w0693 : (Jvm.Cond.code ({ cls := "LockWatch$Reader", name := "readStep", desc := "(I)V" } : Jvm.MethodName) prog_8_method_6_code (4 : Nat) (Option.none : Option Jvm.ClassFile.FieldType)) ∈ lw_tbl := List.mem_of_getElem? (i := 693) rfl
set_option maxRecDepth 30000 in
theorem w0696 : (Jvm.Cond.code ({ cls := "LockWatch", name := "packStep", desc := "(II)I" } : Jvm.MethodName) prog_1_method_41_code (2 : Nat) (Option.some Jvm.ClassFile.FieldType.int)) ∈ lw_tbl := List.mem_of_getElem? (i := 696) rfl
set_option maxRecDepth 30000 in
theorem w0700 : (Jvm.Cond.code ({ cls := "LockWatch$History", name := "restart", desc := "()V" } : Jvm.MethodName) prog_4_method_3_code (1 : Nat) (Option.none : Option Jvm.ClassFile.FieldType)) ∈ lw_tbl := List.mem_of_getElem? (i := 700) rfl
set_option maxRecDepth 30000 in
theorem w0704 : (Jvm.Cond.code ({ cls := "LockWatch$History", name := "present", desc := "()LLockWatch$Learnt;" } : Jvm.MethodName) prog_4_method_2_code (1 : Nat) (Option.some (Jvm.ClassFile.FieldType.object "LockWatch$Learnt"))) ∈ lw_tbl := List.mem_of_getElem? (i := 704) rfl
set_option maxRecDepth 30000 in
theorem w0708 : (Jvm.Cond.code ({ cls := "LockWatch$Learnt", name := "begin", desc := "([I)V" } : Jvm.MethodName) prog_5_method_2_code (2 : Nat) (Option.none : Option Jvm.ClassFile.FieldType)) ∈ lw_tbl := List.mem_of_getElem? (i := 708) rfl
set_option maxRecDepth 30000 in
theorem w0715 : (Jvm.Cond.code ({ cls := "LockWatch$Learnt", name := "clear", desc := "()V" } : Jvm.MethodName) prog_5_method_3_code (1 : Nat) (Option.none : Option Jvm.ClassFile.FieldType)) ∈ lw_tbl := List.mem_of_getElem? (i := 715) rfl
set_option maxRecDepth 30000 in
theorem w0720 : (Jvm.Cond.code ({ cls := "LockWatch$Graph", name := "clear", desc := "()V" } : Jvm.MethodName) prog_3_method_2_code (1 : Nat) (Option.none : Option Jvm.ClassFile.FieldType)) ∈ lw_tbl := List.mem_of_getElem? (i := 720) rfl
set_option maxRecDepth 30000 in
theorem w0725 : (Jvm.Cond.code ({ cls := "LockWatch$Reports", name := "clear", desc := "()V" } : Jvm.MethodName) prog_9_method_2_code (1 : Nat) (Option.none : Option Jvm.ClassFile.FieldType)) ∈ lw_tbl := List.mem_of_getElem? (i := 725) rfl
set_option maxRecDepth 30000 in
theorem w0730 : (Jvm.Cond.code ({ cls := "LockWatch$Found", name := "clear", desc := "()V" } : Jvm.MethodName) prog_2_method_2_code (1 : Nat) (Option.none : Option Jvm.ClassFile.FieldType)) ∈ lw_tbl := List.mem_of_getElem? (i := 730) rfl
set_option maxRecDepth 30000 in
theorem w0734 : (Jvm.Cond.code ({ cls := "LockWatch", name := "fault", desc := "(I)I" } : Jvm.MethodName) prog_1_method_5_code (2 : Nat) (Option.some Jvm.ClassFile.FieldType.int)) ∈ lw_tbl := List.mem_of_getElem? (i := 734) rfl
set_option maxRecDepth 30000 in
theorem w0738 : (Jvm.Cond.code ({ cls := "LockWatch", name := "runs", desc := "(I)I" } : Jvm.MethodName) prog_1_method_6_code (2 : Nat) (Option.some Jvm.ClassFile.FieldType.int)) ∈ lw_tbl := List.mem_of_getElem? (i := 738) rfl
set_option maxRecDepth 30000 in
theorem w0742 : (Jvm.Cond.code ({ cls := "LockWatch$Plan", name := "hasProgram", desc := "(I)Z" } : Jvm.MethodName) prog_7_method_4_code (2 : Nat) (Option.some Jvm.ClassFile.FieldType.boolean)) ∈ lw_tbl := List.mem_of_getElem? (i := 742) rfl
set_option maxRecDepth 30000 in
theorem w0746 : (Jvm.Cond.code ({ cls := "LockWatch$History", name := "act", desc := "()LLockWatch$Learnt;" } : Jvm.MethodName) prog_4_method_4_code (1 : Nat) (Option.some (Jvm.ClassFile.FieldType.object "LockWatch$Learnt"))) ∈ lw_tbl := List.mem_of_getElem? (i := 746) rfl
set_option maxRecDepth 30000 in
theorem w0750 : (Jvm.Cond.code ({ cls := "LockWatch$History", name := "dropOldest", desc := "()V" } : Jvm.MethodName) prog_4_method_7_code (3 : Nat) (Option.none : Option Jvm.ClassFile.FieldType)) ∈ lw_tbl := List.mem_of_getElem? (i := 750) rfl
set_option maxRecDepth 30000 in
theorem w0754 : (Jvm.Cond.code ({ cls := "LockWatch$Learnt", name := "copyFrom", desc := "(LLockWatch$Learnt;)V" } : Jvm.MethodName) prog_5_method_4_code (2 : Nat) (Option.none : Option Jvm.ClassFile.FieldType)) ∈ lw_tbl := List.mem_of_getElem? (i := 754) rfl
set_option maxRecDepth 30000 in
theorem w0758 : (Jvm.Cond.code ({ cls := "LockWatch$Graph", name := "copyFrom", desc := "(LLockWatch$Graph;)V" } : Jvm.MethodName) prog_3_method_3_code (2 : Nat) (Option.none : Option Jvm.ClassFile.FieldType)) ∈ lw_tbl := List.mem_of_getElem? (i := 758) rfl
set_option maxRecDepth 30000 in
theorem w0763 : (Jvm.Cond.code ({ cls := "LockWatch$Reports", name := "copyFrom", desc := "(LLockWatch$Reports;)V" } : Jvm.MethodName) prog_9_method_3_code (2 : Nat) (Option.none : Option Jvm.ClassFile.FieldType)) ∈ lw_tbl := List.mem_of_getElem? (i := 763) rfl
set_option maxRecDepth 30000 in
theorem w0768 : (Jvm.Cond.code ({ cls := "LockWatch$Watch", name := "run", desc := "(LLockWatch$Plan;LLockWatch$Learnt;I)I" } : Jvm.MethodName) prog_11_method_2_code (8 : Nat) (Option.some Jvm.ClassFile.FieldType.int)) ∈ lw_tbl := List.mem_of_getElem? (i := 768) rfl
set_option maxRecDepth 30000 in
theorem w0772 : (Jvm.Cond.code ({ cls := "LockWatch$Watch", name := "begin", desc := "(LLockWatch$Plan;I)V" } : Jvm.MethodName) prog_11_method_5_code (3 : Nat) (Option.none : Option Jvm.ClassFile.FieldType)) ∈ lw_tbl := List.mem_of_getElem? (i := 772) rfl
set_option maxRecDepth 30000 in
theorem w0775 : (Jvm.Cond.code ({ cls := "LockWatch", name := "contextOf", desc := "(I)I" } : Jvm.MethodName) prog_1_method_44_code (1 : Nat) (Option.some Jvm.ClassFile.FieldType.int)) ∈ lw_tbl := List.mem_of_getElem? (i := 775) rfl
set_option maxRecDepth 30000 in
theorem w0778 : (Jvm.Cond.code ({ cls := "LockWatch", name := "deedOf", desc := "(I)I" } : Jvm.MethodName) prog_1_method_42_code (1 : Nat) (Option.some Jvm.ClassFile.FieldType.int)) ∈ lw_tbl := List.mem_of_getElem? (i := 778) rfl
set_option maxRecDepth 30000 in
theorem w0781 : (Jvm.Cond.code ({ cls := "LockWatch", name := "lockOf", desc := "(I)I" } : Jvm.MethodName) prog_1_method_43_code (1 : Nat) (Option.some Jvm.ClassFile.FieldType.int)) ∈ lw_tbl := List.mem_of_getElem? (i := 781) rfl
set_option maxRecDepth 30000 in
theorem w0784 : (Jvm.Cond.code ({ cls := "LockWatch", name := "has", desc := "(II)Z" } : Jvm.MethodName) prog_1_method_47_code (2 : Nat) (Option.some Jvm.ClassFile.FieldType.boolean)) ∈ lw_tbl := List.mem_of_getElem? (i := 784) rfl
set_option maxRecDepth 30000 in
theorem w0788 : (Jvm.Cond.code ({ cls := "LockWatch$Watch", name := "takenAs", desc := "(I)I" } : Jvm.MethodName) prog_11_method_10_code (3 : Nat) (Option.some Jvm.ClassFile.FieldType.int)) ∈ lw_tbl := List.mem_of_getElem? (i := 788) rfl
set_option maxRecDepth 30000 in
theorem w0792 : (Jvm.Cond.code ({ cls := "LockWatch$Watch", name := "tell", desc := "(II)V" } : Jvm.MethodName) prog_11_method_18_code (3 : Nat) (Option.none : Option Jvm.ClassFile.FieldType)) ∈ lw_tbl := List.mem_of_getElem? (i := 792) rfl
set_option maxRecDepth 30000 in
theorem w0796 : (Jvm.Cond.code ({ cls := "LockWatch$Reports", name := "open", desc := "(III)V" } : Jvm.MethodName) prog_9_method_6_code (4 : Nat) (Option.none : Option Jvm.ClassFile.FieldType)) ∈ lw_tbl := List.mem_of_getElem? (i := 796) rfl
set_option maxRecDepth 30000 in
theorem w0800 : (Jvm.Cond.code ({ cls := "LockWatch$Reports", name := "addNode", desc := "(I)V" } : Jvm.MethodName) prog_9_method_7_code (2 : Nat) (Option.none : Option Jvm.ClassFile.FieldType)) ∈ lw_tbl := List.mem_of_getElem? (i := 800) rfl
set_option maxRecDepth 30000 in
theorem w0804 : (Jvm.Cond.code ({ cls := "LockWatch$Reports", name := "close", desc := "()V" } : Jvm.MethodName) prog_9_method_8_code (3 : Nat) (Option.none : Option Jvm.ClassFile.FieldType)) ∈ lw_tbl := List.mem_of_getElem? (i := 804) rfl
set_option maxRecDepth 30000 in
theorem w0808 : (Jvm.Cond.code ({ cls := "LockWatch$Watch", name := "takeUp", desc := "(II)V" } : Jvm.MethodName) prog_11_method_11_code (5 : Nat) (Option.none : Option Jvm.ClassFile.FieldType)) ∈ lw_tbl := List.mem_of_getElem? (i := 808) rfl
set_option maxRecDepth 30000 in
theorem w0812 : (Jvm.Cond.code ({ cls := "LockWatch$Watch", name := "nodeOf", desc := "(II)I" } : Jvm.MethodName) prog_11_method_7_code (3 : Nat) (Option.some Jvm.ClassFile.FieldType.int)) ∈ lw_tbl := List.mem_of_getElem? (i := 812) rfl
set_option maxRecDepth 30000 in
theorem w0816 : (Jvm.Cond.code ({ cls := "LockWatch$Watch", name := "rowWith", desc := "(I)J" } : Jvm.MethodName) prog_11_method_12_code (5 : Nat) (Option.some Jvm.ClassFile.FieldType.long)) ∈ lw_tbl := List.mem_of_getElem? (i := 816) rfl
set_option maxRecDepth 30000 in
theorem w0820 : (Jvm.Cond.code ({ cls := "LockWatch$Learnt", name := "addRow", desc := "(J)V" } : Jvm.MethodName) prog_5_method_7_code (4 : Nat) (Option.none : Option Jvm.ClassFile.FieldType)) ∈ lw_tbl := List.mem_of_getElem? (i := 820) rfl
set_option maxRecDepth 30000 in
theorem w0823 : (Jvm.Cond.code ({ cls := "java/util/Arrays", name := "copyOf", desc := "([JI)[J" } : Jvm.MethodName) prog_22_method_124_code (3 : Nat) (Option.some (Jvm.ClassFile.FieldType.array Jvm.ClassFile.FieldType.long))) ∈ lw_tbl := List.mem_of_getElem? (i := 823) rfl
set_option maxRecDepth 30000 in
theorem w0836 : (Jvm.Cond.code ({ cls := "LockWatch$Watch", name := "learnOrder", desc := "(II)V" } : Jvm.MethodName) prog_11_method_13_code (4 : Nat) (Option.none : Option Jvm.ClassFile.FieldType)) ∈ lw_tbl := List.mem_of_getElem? (i := 836) rfl
set_option maxRecDepth 30000 in
theorem w0840 : (Jvm.Cond.code ({ cls := "LockWatch$Watch", name := "tellOnce", desc := "(II)V" } : Jvm.MethodName) prog_11_method_17_code (3 : Nat) (Option.none : Option Jvm.ClassFile.FieldType)) ∈ lw_tbl := List.mem_of_getElem? (i := 840) rfl
set_option maxRecDepth 30000 in
theorem w0844 : (Jvm.Cond.code ({ cls := "LockWatch$Reports", name := "toldBehind", desc := "(II)I" } : Jvm.MethodName) prog_9_method_5_code (3 : Nat) (Option.some Jvm.ClassFile.FieldType.int)) ∈ lw_tbl := List.mem_of_getElem? (i := 844) rfl
set_option maxRecDepth 30000 in
theorem w0848 : (Jvm.Cond.code ({ cls := "LockWatch$Graph", name := "leads", desc := "(II)Z" } : Jvm.MethodName) prog_3_method_4_code (3 : Nat) (Option.some Jvm.ClassFile.FieldType.boolean)) ∈ lw_tbl := List.mem_of_getElem? (i := 848) rfl
set_option maxRecDepth 30000 in
theorem w0853 : (Jvm.Cond.code ({ cls := "LockWatch$Graph", name := "learn", desc := "(III)V" } : Jvm.MethodName) prog_3_method_5_code (6 : Nat) (Option.none : Option Jvm.ClassFile.FieldType)) ∈ lw_tbl := List.mem_of_getElem? (i := 853) rfl
set_option maxRecDepth 30000 in
theorem w0857 : (Jvm.Cond.code ({ cls := "LockWatch$Watch", name := "tellWay", desc := "(II)V" } : Jvm.MethodName) prog_11_method_16_code (4 : Nat) (Option.none : Option Jvm.ClassFile.FieldType)) ∈ lw_tbl := List.mem_of_getElem? (i := 857) rfl
set_option maxRecDepth 30000 in
theorem w0861 : (Jvm.Cond.code ({ cls := "LockWatch$Ways", name := "find", desc := "([III)Z" } : Jvm.MethodName) prog_12_method_2_code (8 : Nat) (Option.some Jvm.ClassFile.FieldType.boolean)) ∈ lw_tbl := List.mem_of_getElem? (i := 861) rfl
set_option maxRecDepth 30000 in
theorem w0864 : (Jvm.Cond.code ({ cls := "LockWatch$Ways", name := "leadingTo", desc := "([II)I" } : Jvm.MethodName) prog_12_method_3_code (4 : Nat) (Option.some Jvm.ClassFile.FieldType.int)) ∈ lw_tbl := List.mem_of_getElem? (i := 864) rfl
set_option maxRecDepth 30000 in
theorem w0867 : (Jvm.Cond.code ({ cls := "java/lang/Integer", name := "bitCount", desc := "(I)I" } : Jvm.MethodName) prog_16_method_49_code (1 : Nat) (Option.some Jvm.ClassFile.FieldType.int)) ∈ lw_tbl := List.mem_of_getElem? (i := 867) rfl
set_option maxRecDepth 30000 in
theorem w0874 : (Jvm.Cond.code ({ cls := "LockWatch$Watch", name := "learnUse", desc := "(I)V" } : Jvm.MethodName) prog_11_method_14_code (5 : Nat) (Option.none : Option Jvm.ClassFile.FieldType)) ∈ lw_tbl := List.mem_of_getElem? (i := 874) rfl
set_option maxRecDepth 30000 in
theorem w0877 : (Jvm.Cond.code ({ cls := "LockWatch", name := "whatCanCome", desc := "(I)I" } : Jvm.MethodName) prog_1_method_46_code (1 : Nat) (Option.some Jvm.ClassFile.FieldType.int)) ∈ lw_tbl := List.mem_of_getElem? (i := 877) rfl
set_option maxRecDepth 30000 in
theorem w0881 : (Jvm.Cond.code ({ cls := "LockWatch$Watch", name := "tellUnsafe", desc := "(III)V" } : Jvm.MethodName) prog_11_method_15_code (9 : Nat) (Option.none : Option Jvm.ClassFile.FieldType)) ∈ lw_tbl := List.mem_of_getElem? (i := 881) rfl
set_option maxRecDepth 30000 in
theorem w0885 : (Jvm.Cond.code ({ cls := "LockWatch$Learnt", name := "nodesWith", desc := "(I)I" } : Jvm.MethodName) prog_5_method_6_code (4 : Nat) (Option.some Jvm.ClassFile.FieldType.int)) ∈ lw_tbl := List.mem_of_getElem? (i := 885) rfl
set_option maxRecDepth 30000 in
theorem w0889 : (Jvm.Cond.code ({ cls := "LockWatch$Reports", name := "isFull", desc := "()Z" } : Jvm.MethodName) prog_9_method_4_code (1 : Nat) (Option.some Jvm.ClassFile.FieldType.boolean)) ∈ lw_tbl := List.mem_of_getElem? (i := 889) rfl
set_option maxRecDepth 30000 in
theorem w0893 : (Jvm.Cond.code ({ cls := "LockWatch$Watch", name := "hold", desc := "(II)V" } : Jvm.MethodName) prog_11_method_8_code (3 : Nat) (Option.none : Option Jvm.ClassFile.FieldType)) ∈ lw_tbl := List.mem_of_getElem? (i := 893) rfl
set_option maxRecDepth 30000 in
theorem w0897 : (Jvm.Cond.code ({ cls := "LockWatch$Watch", name := "follow", desc := "(I)V" } : Jvm.MethodName) prog_11_method_6_code (4 : Nat) (Option.none : Option Jvm.ClassFile.FieldType)) ∈ lw_tbl := List.mem_of_getElem? (i := 897) rfl
set_option maxRecDepth 30000 in
theorem w0901 : (Jvm.Cond.code ({ cls := "LockWatch$Watch", name := "letGo", desc := "(I)V" } : Jvm.MethodName) prog_11_method_9_code (4 : Nat) (Option.none : Option Jvm.ClassFile.FieldType)) ∈ lw_tbl := List.mem_of_getElem? (i := 901) rfl
set_option maxRecDepth 30000 in
theorem w0904 : (Jvm.Cond.code ({ cls := "LockWatch", name := "turned", desc := "(III)I" } : Jvm.MethodName) prog_1_method_45_code (3 : Nat) (Option.some Jvm.ClassFile.FieldType.int)) ∈ lw_tbl := List.mem_of_getElem? (i := 904) rfl
set_option maxRecDepth 30000 in
theorem w0909 : (Jvm.Cond.code ({ cls := "LockWatch", name := "forget", desc := "()I" } : Jvm.MethodName) prog_1_method_7_code (2 : Nat) (Option.some Jvm.ClassFile.FieldType.int)) ∈ lw_tbl := List.mem_of_getElem? (i := 909) rfl
set_option maxRecDepth 30000 in
theorem w0914 : (Jvm.Cond.code ({ cls := "LockWatch", name := "swap", desc := "(II)Z" } : Jvm.MethodName) prog_1_method_8_code (3 : Nat) (Option.some Jvm.ClassFile.FieldType.boolean)) ∈ lw_tbl := List.mem_of_getElem? (i := 914) rfl
set_option maxRecDepth 30000 in
theorem w0918 : (Jvm.Cond.code ({ cls := "LockWatch$Plan", name := "hasPair", desc := "(II)Z" } : Jvm.MethodName) prog_7_method_7_code (3 : Nat) (Option.some Jvm.ClassFile.FieldType.boolean)) ∈ lw_tbl := List.mem_of_getElem? (i := 918) rfl
set_option maxRecDepth 30000 in
theorem w0922 : (Jvm.Cond.code ({ cls := "LockWatch", name := "exchange", desc := "([III)V" } : Jvm.MethodName) prog_1_method_39_code (5 : Nat) (Option.none : Option Jvm.ClassFile.FieldType)) ∈ lw_tbl := List.mem_of_getElem? (i := 922) rfl
set_option maxRecDepth 30000 in
theorem w0926 : (Jvm.Cond.code ({ cls := "LockWatch", name := "undo", desc := "()Z" } : Jvm.MethodName) prog_1_method_9_code (1 : Nat) (Option.some Jvm.ClassFile.FieldType.boolean)) ∈ lw_tbl := List.mem_of_getElem? (i := 926) rfl
set_option maxRecDepth 30000 in
theorem w0930 : (Jvm.Cond.code ({ cls := "LockWatch$History", name := "goBack", desc := "()Z" } : Jvm.MethodName) prog_4_method_5_code (1 : Nat) (Option.some Jvm.ClassFile.FieldType.boolean)) ∈ lw_tbl := List.mem_of_getElem? (i := 930) rfl
set_option maxRecDepth 30000 in
theorem w0934 : (Jvm.Cond.code ({ cls := "LockWatch", name := "redo", desc := "()Z" } : Jvm.MethodName) prog_1_method_10_code (1 : Nat) (Option.some Jvm.ClassFile.FieldType.boolean)) ∈ lw_tbl := List.mem_of_getElem? (i := 934) rfl
set_option maxRecDepth 30000 in
theorem w0938 : (Jvm.Cond.code ({ cls := "LockWatch$History", name := "goOn", desc := "()Z" } : Jvm.MethodName) prog_4_method_6_code (1 : Nat) (Option.some Jvm.ClassFile.FieldType.boolean)) ∈ lw_tbl := List.mem_of_getElem? (i := 938) rfl
set_option maxRecDepth 30000 in
theorem w0942 : (Jvm.Cond.code ({ cls := "LockWatch", name := "lock", desc := "(I)I" } : Jvm.MethodName) prog_1_method_11_code (2 : Nat) (Option.some Jvm.ClassFile.FieldType.int)) ∈ lw_tbl := List.mem_of_getElem? (i := 942) rfl
set_option maxRecDepth 30000 in
theorem w0946 : (Jvm.Cond.code ({ cls := "LockWatch$Plan", name := "hasLock", desc := "(I)Z" } : Jvm.MethodName) prog_7_method_3_code (2 : Nat) (Option.some Jvm.ClassFile.FieldType.boolean)) ∈ lw_tbl := List.mem_of_getElem? (i := 946) rfl
set_option maxRecDepth 30000 in
theorem w0950 : (Jvm.Cond.code ({ cls := "LockWatch", name := "program", desc := "(II)I" } : Jvm.MethodName) prog_1_method_12_code (3 : Nat) (Option.some Jvm.ClassFile.FieldType.int)) ∈ lw_tbl := List.mem_of_getElem? (i := 950) rfl
set_option maxRecDepth 30000 in
theorem w0954 : (Jvm.Cond.code ({ cls := "LockWatch", name := "step", desc := "(III)I" } : Jvm.MethodName) prog_1_method_13_code (5 : Nat) (Option.some Jvm.ClassFile.FieldType.int)) ∈ lw_tbl := List.mem_of_getElem? (i := 954) rfl
set_option maxRecDepth 30000 in
theorem w0958 : (Jvm.Cond.code ({ cls := "LockWatch$Plan", name := "hasStep", desc := "(II)Z" } : Jvm.MethodName) prog_7_method_6_code (3 : Nat) (Option.some Jvm.ClassFile.FieldType.boolean)) ∈ lw_tbl := List.mem_of_getElem? (i := 958) rfl
set_option maxRecDepth 30000 in
theorem w0964 : (Jvm.Cond.code ({ cls := "LockWatch", name := "edge", desc := "(III)I" } : Jvm.MethodName) prog_1_method_14_code (6 : Nat) (Option.some Jvm.ClassFile.FieldType.int)) ∈ lw_tbl := List.mem_of_getElem? (i := 964) rfl
set_option maxRecDepth 30000 in
theorem w0967 : (Jvm.Cond.code ({ cls := "LockWatch", name := "isNode", desc := "(I)Z" } : Jvm.MethodName) prog_1_method_40_code (1 : Nat) (Option.some Jvm.ClassFile.FieldType.boolean)) ∈ lw_tbl := List.mem_of_getElem? (i := 967) rfl
set_option maxRecDepth 30000 in
theorem w0972 : (Jvm.Cond.code ({ cls := "LockWatch", name := "uses", desc := "(I)I" } : Jvm.MethodName) prog_1_method_15_code (2 : Nat) (Option.some Jvm.ClassFile.FieldType.int)) ∈ lw_tbl := List.mem_of_getElem? (i := 972) rfl
set_option maxRecDepth 30000 in
theorem w0976 : (Jvm.Cond.code ({ cls := "LockWatch", name := "way", desc := "(III)I" } : Jvm.MethodName) prog_1_method_16_code (4 : Nat) (Option.some Jvm.ClassFile.FieldType.int)) ∈ lw_tbl := List.mem_of_getElem? (i := 976) rfl
set_option maxRecDepth 30000 in
theorem w0981 : (Jvm.Cond.code ({ cls := "LockWatch", name := "reaches", desc := "(I)I" } : Jvm.MethodName) prog_1_method_17_code (2 : Nat) (Option.some Jvm.ClassFile.FieldType.int)) ∈ lw_tbl := List.mem_of_getElem? (i := 981) rfl
set_option maxRecDepth 30000 in
theorem w0985 : (Jvm.Cond.code ({ cls := "LockWatch", name := "report", desc := "(II)I" } : Jvm.MethodName) prog_1_method_18_code (4 : Nat) (Option.some Jvm.ClassFile.FieldType.int)) ∈ lw_tbl := List.mem_of_getElem? (i := 985) rfl
set_option maxRecDepth 30000 in
theorem w0989 : (Jvm.Cond.code ({ cls := "LockWatch$Reports", name := "nodeAt", desc := "(II)I" } : Jvm.MethodName) prog_9_method_9_code (3 : Nat) (Option.some Jvm.ClassFile.FieldType.int)) ∈ lw_tbl := List.mem_of_getElem? (i := 989) rfl
set_option maxRecDepth 30000 in
theorem w0993 : (Jvm.Cond.code ({ cls := "LockWatch", name := "chain", desc := "(II)I" } : Jvm.MethodName) prog_1_method_19_code (3 : Nat) (Option.some Jvm.ClassFile.FieldType.int)) ∈ lw_tbl := List.mem_of_getElem? (i := 993) rfl
set_option maxRecDepth 30000 in
theorem w0997 : (Jvm.Cond.code ({ cls := "LockWatch", name := "would", desc := "(II)I" } : Jvm.MethodName) prog_1_method_20_code (5 : Nat) (Option.some Jvm.ClassFile.FieldType.int)) ∈ lw_tbl := List.mem_of_getElem? (i := 997) rfl
set_option maxRecDepth 30000 in
theorem w1002 : (Jvm.Cond.code ({ cls := "LockWatch", name := "mends", desc := "(I)I" } : Jvm.MethodName) prog_1_method_21_code (2 : Nat) (Option.some Jvm.ClassFile.FieldType.int)) ∈ lw_tbl := List.mem_of_getElem? (i := 1002) rfl
set_option maxRecDepth 30000 in
theorem w1006 : (Jvm.Cond.code ({ cls := "LockWatch$Mender", name := "mend", desc := "([I)V" } : Jvm.MethodName) prog_6_method_2_code (2 : Nat) (Option.none : Option Jvm.ClassFile.FieldType)) ∈ lw_tbl := List.mem_of_getElem? (i := 1006) rfl
set_option maxRecDepth 30000 in
theorem w1011 : (Jvm.Cond.code ({ cls := "LockWatch$Mender", name := "doesWithout", desc := "(I)Z" } : Jvm.MethodName) prog_6_method_4_code (7 : Nat) (Option.some Jvm.ClassFile.FieldType.boolean)) ∈ lw_tbl := List.mem_of_getElem? (i := 1011) rfl
set_option maxRecDepth 30000 in
theorem w1015 : (Jvm.Cond.code ({ cls := "LockWatch$Mender", name := "hasRing", desc := "()Z" } : Jvm.MethodName) prog_6_method_5_code (5 : Nat) (Option.some Jvm.ClassFile.FieldType.boolean)) ∈ lw_tbl := List.mem_of_getElem? (i := 1015) rfl
set_option maxRecDepth 30000 in
theorem w1020 : (Jvm.Cond.code ({ cls := "LockWatch$Mender", name := "shortestRing", desc := "([I)I" } : Jvm.MethodName) prog_6_method_6_code (4 : Nat) (Option.some Jvm.ClassFile.FieldType.int)) ∈ lw_tbl := List.mem_of_getElem? (i := 1020) rfl
set_option maxRecDepth 30000 in
theorem w1025 : (Jvm.Cond.code ({ cls := "LockWatch$Mender", name := "leastOfFewest", desc := "()I" } : Jvm.MethodName) prog_6_method_3_code (5 : Nat) (Option.some Jvm.ClassFile.FieldType.int)) ∈ lw_tbl := List.mem_of_getElem? (i := 1025) rfl
set_option maxRecDepth 30000 in
theorem w1030 : (Jvm.Cond.code ({ cls := "LockWatch", name := "order", desc := "(I)I" } : Jvm.MethodName) prog_1_method_22_code (2 : Nat) (Option.some Jvm.ClassFile.FieldType.int)) ∈ lw_tbl := List.mem_of_getElem? (i := 1030) rfl
set_option maxRecDepth 30000 in
theorem w1034 : (Jvm.Cond.code ({ cls := "LockWatch$Graph", name := "inOrder", desc := "(I)I" } : Jvm.MethodName) prog_3_method_6_code (6 : Nat) (Option.some Jvm.ClassFile.FieldType.int)) ∈ lw_tbl := List.mem_of_getElem? (i := 1034) rfl
set_option maxRecDepth 30000 in
theorem w1038 : (Jvm.Cond.code ({ cls := "LockWatch$Graph", name := "ledToFrom", desc := "(I)I" } : Jvm.MethodName) prog_3_method_7_code (4 : Nat) (Option.some Jvm.ClassFile.FieldType.int)) ∈ lw_tbl := List.mem_of_getElem? (i := 1038) rfl
set_option maxRecDepth 30000 in
theorem w1041 : (Jvm.Cond.code ({ cls := "LockWatch", name := "leastOf", desc := "(I)I" } : Jvm.MethodName) prog_1_method_48_code (1 : Nat) (Option.some Jvm.ClassFile.FieldType.int)) ∈ lw_tbl := List.mem_of_getElem? (i := 1041) rfl
set_option maxRecDepth 30000 in
theorem w1046 : (Jvm.Cond.code ({ cls := "LockWatch", name := "all", desc := "(I)I" } : Jvm.MethodName) prog_1_method_23_code (2 : Nat) (Option.some Jvm.ClassFile.FieldType.int)) ∈ lw_tbl := List.mem_of_getElem? (i := 1046) rfl
set_option maxRecDepth 30000 in
theorem w1050 : (Jvm.Cond.code ({ cls := "LockWatch", name := "runEveryone", desc := "([I)LLockWatch$Reports;" } : Jvm.MethodName) prog_1_method_38_code (3 : Nat) (Option.some (Jvm.ClassFile.FieldType.object "LockWatch$Reports"))) ∈ lw_tbl := List.mem_of_getElem? (i := 1050) rfl
set_option maxRecDepth 30000 in
theorem w1054 : (Jvm.Cond.code ({ cls := "LockWatch$Reports", name := "countOf", desc := "(I)I" } : Jvm.MethodName) prog_9_method_10_code (4 : Nat) (Option.some Jvm.ClassFile.FieldType.int)) ∈ lw_tbl := List.mem_of_getElem? (i := 1054) rfl
set_option maxRecDepth 30000 in
theorem w1058 : (Jvm.Cond.code ({ cls := "LockWatch", name := "stuck", desc := "(II)I" } : Jvm.MethodName) prog_1_method_24_code (4 : Nat) (Option.some Jvm.ClassFile.FieldType.int)) ∈ lw_tbl := List.mem_of_getElem? (i := 1058) rfl
set_option maxRecDepth 30000 in
theorem w1062 : (Jvm.Cond.code ({ cls := "LockWatch$Plan", name := "isSet", desc := "(I)Z" } : Jvm.MethodName) prog_7_method_10_code (2 : Nat) (Option.some Jvm.ClassFile.FieldType.boolean)) ∈ lw_tbl := List.mem_of_getElem? (i := 1062) rfl
set_option maxRecDepth 30000 in
theorem w1066 : (Jvm.Cond.code ({ cls := "LockWatch$Plan", name := "everyone", desc := "()I" } : Jvm.MethodName) prog_7_method_8_code (1 : Nat) (Option.some Jvm.ClassFile.FieldType.int)) ∈ lw_tbl := List.mem_of_getElem? (i := 1066) rfl
set_option maxRecDepth 30000 in
theorem w1070 : (Jvm.Cond.code ({ cls := "LockWatch$Plan", name := "tasks", desc := "()I" } : Jvm.MethodName) prog_7_method_9_code (3 : Nat) (Option.some Jvm.ClassFile.FieldType.int)) ∈ lw_tbl := List.mem_of_getElem? (i := 1070) rfl
set_option maxRecDepth 30000 in
theorem w1074 : (Jvm.Cond.code ({ cls := "LockWatch$Found", name := "outcomeOf", desc := "(LLockWatch$Plan;[II)I" } : Jvm.MethodName) prog_2_method_3_code (4 : Nat) (Option.some Jvm.ClassFile.FieldType.int)) ∈ lw_tbl := List.mem_of_getElem? (i := 1074) rfl
set_option maxRecDepth 30000 in
theorem w1078 : (Jvm.Cond.code ({ cls := "LockWatch$Found", name := "freshen", desc := "([I)V" } : Jvm.MethodName) prog_2_method_7_code (3 : Nat) (Option.none : Option Jvm.ClassFile.FieldType)) ∈ lw_tbl := List.mem_of_getElem? (i := 1078) rfl
set_option maxRecDepth 30000 in
theorem w1084 : (Jvm.Cond.code ({ cls := "LockWatch$Found", name := "lookInto", desc := "(LLockWatch$Plan;I)V" } : Jvm.MethodName) prog_2_method_8_code (4 : Nat) (Option.none : Option Jvm.ClassFile.FieldType)) ∈ lw_tbl := List.mem_of_getElem? (i := 1084) rfl
set_option maxRecDepth 30000 in
theorem w1088 : (Jvm.Cond.code ({ cls := "LockWatch$Found", name := "readySides", desc := "()LLockWatch$Sides;" } : Jvm.MethodName) prog_2_method_9_code (1 : Nat) (Option.some (Jvm.ClassFile.FieldType.object "LockWatch$Sides"))) ∈ lw_tbl := List.mem_of_getElem? (i := 1088) rfl
set_option maxRecDepth 30000 in
theorem w1093 : (Jvm.Cond.code ({ cls := "LockWatch$Sides", name := "<init>", desc := "()V" } : Jvm.MethodName) prog_10_method_1_code (1 : Nat) (Option.none : Option Jvm.ClassFile.FieldType)) ∈ lw_tbl := List.mem_of_getElem? (i := 1093) rfl
set_option maxRecDepth 30000 in
theorem w1164 : (Jvm.Cond.code ({ cls := "LockWatch$Sides", name := "search", desc := "(LLockWatch$Plan;[II)V" } : Jvm.MethodName) prog_10_method_2_code (5 : Nat) (Option.none : Option Jvm.ClassFile.FieldType)) ∈ lw_tbl := List.mem_of_getElem? (i := 1164) rfl
set_option maxRecDepth 30000 in
theorem w1169 : (Jvm.Cond.code ({ cls := "LockWatch$Sides", name := "beginTurn", desc := "()V" } : Jvm.MethodName) prog_10_method_3_code (1 : Nat) (Option.none : Option Jvm.ClassFile.FieldType)) ∈ lw_tbl := List.mem_of_getElem? (i := 1169) rfl
set_option maxRecDepth 30000 in
theorem w1175 : (Jvm.Cond.code ({ cls := "LockWatch$Sides", name := "seeWhatCanCome", desc := "()V" } : Jvm.MethodName) prog_10_method_4_code (5 : Nat) (Option.none : Option Jvm.ClassFile.FieldType)) ∈ lw_tbl := List.mem_of_getElem? (i := 1175) rfl
set_option maxRecDepth 30000 in
theorem w1183 : (Jvm.Cond.code ({ cls := "LockWatch$Sides", name := "keep", desc := "(JJI)Z" } : Jvm.MethodName) prog_10_method_8_code (7 : Nat) (Option.some Jvm.ClassFile.FieldType.boolean)) ∈ lw_tbl := List.mem_of_getElem? (i := 1183) rfl
set_option maxRecDepth 30000 in
theorem w1187 : (Jvm.Cond.code ({ cls := "LockWatch$Sides", name := "slotOf", desc := "(JJ)I" } : Jvm.MethodName) prog_10_method_9_code (10 : Nat) (Option.some Jvm.ClassFile.FieldType.int)) ∈ lw_tbl := List.mem_of_getElem? (i := 1187) rfl
set_option maxRecDepth 30000 in
theorem w1193 : (Jvm.Cond.code ({ cls := "LockWatch$Sides", name := "goOnFrom", desc := "(I)V" } : Jvm.MethodName) prog_10_method_5_code (8 : Nat) (Option.none : Option Jvm.ClassFile.FieldType)) ∈ lw_tbl := List.mem_of_getElem? (i := 1193) rfl
set_option maxRecDepth 30000 in
theorem w1198 : (Jvm.Cond.code ({ cls := "LockWatch$Sides", name := "onTop", desc := "(JI)I" } : Jvm.MethodName) prog_10_method_14_code (6 : Nat) (Option.some Jvm.ClassFile.FieldType.int)) ∈ lw_tbl := List.mem_of_getElem? (i := 1198) rfl
set_option maxRecDepth 30000 in
theorem w1204 : (Jvm.Cond.code ({ cls := "LockWatch$Sides", name := "waitsFor", desc := "(JJI)I" } : Jvm.MethodName) prog_10_method_13_code (9 : Nat) (Option.some Jvm.ClassFile.FieldType.int)) ∈ lw_tbl := List.mem_of_getElem? (i := 1204) rfl
set_option maxRecDepth 30000 in
theorem w1207 : (Jvm.Cond.code ({ cls := "LockWatch$Sides", name := "doneBy", desc := "(JI)I" } : Jvm.MethodName) prog_10_method_16_code (3 : Nat) (Option.some Jvm.ClassFile.FieldType.int)) ∈ lw_tbl := List.mem_of_getElem? (i := 1207) rfl
set_option maxRecDepth 30000 in
theorem w1211 : (Jvm.Cond.code ({ cls := "LockWatch$Sides", name := "ownersOf", desc := "(JI)I" } : Jvm.MethodName) prog_10_method_17_code (3 : Nat) (Option.some Jvm.ClassFile.FieldType.int)) ∈ lw_tbl := List.mem_of_getElem? (i := 1211) rfl
set_option maxRecDepth 30000 in
theorem w1215 : (Jvm.Cond.code ({ cls := "LockWatch$Sides", name := "doStep", desc := "(III)Z" } : Jvm.MethodName) prog_10_method_7_code (14 : Nat) (Option.some Jvm.ClassFile.FieldType.boolean)) ∈ lw_tbl := List.mem_of_getElem? (i := 1215) rfl
set_option maxRecDepth 30000 in
theorem w1220 : (Jvm.Cond.code ({ cls := "LockWatch$Sides", name := "findRing", desc := "(I)V" } : Jvm.MethodName) prog_10_method_10_code (7 : Nat) (Option.none : Option Jvm.ClassFile.FieldType)) ∈ lw_tbl := List.mem_of_getElem? (i := 1220) rfl
set_option maxRecDepth 30000 in
theorem w1224 : (Jvm.Cond.code ({ cls := "LockWatch$Sides", name := "processorsOf", desc := "(JI)I" } : Jvm.MethodName) prog_10_method_15_code (7 : Nat) (Option.some Jvm.ClassFile.FieldType.int)) ∈ lw_tbl := List.mem_of_getElem? (i := 1224) rfl
set_option maxRecDepth 30000 in
theorem w1229 : (Jvm.Cond.code ({ cls := "LockWatch$Sides", name := "tellRing", desc := "()V" } : Jvm.MethodName) prog_10_method_11_code (2 : Nat) (Option.none : Option Jvm.ClassFile.FieldType)) ∈ lw_tbl := List.mem_of_getElem? (i := 1229) rfl
set_option maxRecDepth 30000 in
theorem w1233 : (Jvm.Cond.code ({ cls := "LockWatch$Sides", name := "tellRoute", desc := "()V" } : Jvm.MethodName) prog_10_method_12_code (3 : Nat) (Option.none : Option Jvm.ClassFile.FieldType)) ∈ lw_tbl := List.mem_of_getElem? (i := 1233) rfl
set_option maxRecDepth 30000 in
theorem w1237 : (Jvm.Cond.code ({ cls := "LockWatch$Sides", name := "letCome", desc := "(III)Z" } : Jvm.MethodName) prog_10_method_6_code (7 : Nat) (Option.some Jvm.ClassFile.FieldType.boolean)) ∈ lw_tbl := List.mem_of_getElem? (i := 1237) rfl
set_option maxRecDepth 30000 in
theorem w1241 : (Jvm.Cond.code ({ cls := "LockWatch", name := "move", desc := "(III)I" } : Jvm.MethodName) prog_1_method_25_code (5 : Nat) (Option.some Jvm.ClassFile.FieldType.int)) ∈ lw_tbl := List.mem_of_getElem? (i := 1241) rfl
set_option maxRecDepth 30000 in
theorem w1245 : (Jvm.Cond.code ({ cls := "LockWatch$Found", name := "moveOf", desc := "(LLockWatch$Plan;[III)I" } : Jvm.MethodName) prog_2_method_5_code (5 : Nat) (Option.some Jvm.ClassFile.FieldType.int)) ∈ lw_tbl := List.mem_of_getElem? (i := 1245) rfl
set_option maxRecDepth 30000 in
theorem w1249 : (Jvm.Cond.code ({ cls := "LockWatch", name := "clash", desc := "(II)I" } : Jvm.MethodName) prog_1_method_26_code (5 : Nat) (Option.some Jvm.ClassFile.FieldType.int)) ∈ lw_tbl := List.mem_of_getElem? (i := 1249) rfl
set_option maxRecDepth 30000 in
theorem w1253 : (Jvm.Cond.code ({ cls := "LockWatch$Plan", name := "isTask", desc := "(I)Z" } : Jvm.MethodName) prog_7_method_5_code (2 : Nat) (Option.some Jvm.ClassFile.FieldType.boolean)) ∈ lw_tbl := List.mem_of_getElem? (i := 1253) rfl
set_option maxRecDepth 30000 in
theorem w1259 : (Jvm.Cond.code ({ cls := "LockWatch", name := "least", desc := "()I" } : Jvm.MethodName) prog_1_method_27_code (1 : Nat) (Option.some Jvm.ClassFile.FieldType.int)) ∈ lw_tbl := List.mem_of_getElem? (i := 1259) rfl
set_option maxRecDepth 30000 in
theorem w1263 : (Jvm.Cond.code ({ cls := "LockWatch$Found", name := "leastSet", desc := "(LLockWatch$Plan;[I)I" } : Jvm.MethodName) prog_2_method_6_code (5 : Nat) (Option.some Jvm.ClassFile.FieldType.int)) ∈ lw_tbl := List.mem_of_getElem? (i := 1263) rfl
set_option maxRecDepth 30000 in
theorem w1270 : (Jvm.Cond.code ({ cls := "LockWatch", name := "missed", desc := "()I" } : Jvm.MethodName) prog_1_method_28_code (3 : Nat) (Option.some Jvm.ClassFile.FieldType.int)) ∈ lw_tbl := List.mem_of_getElem? (i := 1270) rfl
set_option maxRecDepth 30000 in
theorem w1274 : (Jvm.Cond.code ({ cls := "LockWatch$Reports", name := "kindsOfWaiting", desc := "()I" } : Jvm.MethodName) prog_9_method_12_code (3 : Nat) (Option.some Jvm.ClassFile.FieldType.int)) ∈ lw_tbl := List.mem_of_getElem? (i := 1274) rfl
set_option maxRecDepth 30000 in
theorem w1278 : (Jvm.Cond.code ({ cls := "LockWatch$Reports", name := "kindsOf", desc := "(I)I" } : Jvm.MethodName) prog_9_method_11_code (4 : Nat) (Option.some Jvm.ClassFile.FieldType.int)) ∈ lw_tbl := List.mem_of_getElem? (i := 1278) rfl
set_option maxRecDepth 30000 in
theorem w1282 : (Jvm.Cond.code ({ cls := "LockWatch$Plan", name := "locksOfKinds", desc := "(II)I" } : Jvm.MethodName) prog_7_method_11_code (5 : Nat) (Option.some Jvm.ClassFile.FieldType.int)) ∈ lw_tbl := List.mem_of_getElem? (i := 1282) rfl
set_option maxRecDepth 30000 in
theorem w1287 : (Jvm.Cond.code ({ cls := "LockWatch", name := "proves", desc := "(I)I" } : Jvm.MethodName) prog_1_method_29_code (5 : Nat) (Option.some Jvm.ClassFile.FieldType.int)) ∈ lw_tbl := List.mem_of_getElem? (i := 1287) rfl
set_option maxRecDepth 30000 in
theorem w1292 : (Jvm.Cond.code ({ cls := "LockWatch", name := "bestSwap", desc := "(I)I" } : Jvm.MethodName) prog_1_method_30_code (6 : Nat) (Option.some Jvm.ClassFile.FieldType.int)) ∈ lw_tbl := List.mem_of_getElem? (i := 1292) rfl
set_option maxRecDepth 30000 in
theorem w1297 : (Jvm.Cond.code ({ cls := "LockWatch", name := "eased", desc := "(II)I" } : Jvm.MethodName) prog_1_method_31_code (5 : Nat) (Option.some Jvm.ClassFile.FieldType.int)) ∈ lw_tbl := List.mem_of_getElem? (i := 1297) rfl
set_option maxRecDepth 30000 in
theorem w1301 : (Jvm.Cond.code ({ cls := "LockWatch$Found", name := "tryOut", desc := "(LLockWatch$Plan;[II)I" } : Jvm.MethodName) prog_2_method_4_code (5 : Nat) (Option.some Jvm.ClassFile.FieldType.int)) ∈ lw_tbl := List.mem_of_getElem? (i := 1301) rfl
set_option maxRecDepth 30000 in
theorem w1305 : (Jvm.Cond.code ({ cls := "LockWatch", name := "spell", desc := "(III)I" } : Jvm.MethodName) prog_1_method_32_code (4 : Nat) (Option.some Jvm.ClassFile.FieldType.int)) ∈ lw_tbl := List.mem_of_getElem? (i := 1305) rfl
set_option maxRecDepth 30000 in
theorem w1309 : (Jvm.Cond.code ({ cls := "LockWatch$Watch", name := "spellOf", desc := "(LLockWatch$Plan;[IIII)I" } : Jvm.MethodName) prog_11_method_3_code (12 : Nat) (Option.some Jvm.ClassFile.FieldType.int)) ∈ lw_tbl := List.mem_of_getElem? (i := 1309) rfl
set_option maxRecDepth 30000 in
theorem w1312 : (Jvm.Cond.code ({ cls := "java/lang/Math", name := "max", desc := "(II)I" } : Jvm.MethodName) prog_17_method_65_code (2 : Nat) (Option.some Jvm.ClassFile.FieldType.int)) ∈ lw_tbl := List.mem_of_getElem? (i := 1312) rfl
set_option maxRecDepth 30000 in
theorem w1316 : (Jvm.Cond.code ({ cls := "LockWatch", name := "depth", desc := "(II)I" } : Jvm.MethodName) prog_1_method_33_code (3 : Nat) (Option.some Jvm.ClassFile.FieldType.int)) ∈ lw_tbl := List.mem_of_getElem? (i := 1316) rfl
set_option maxRecDepth 30000 in
theorem w1320 : (Jvm.Cond.code ({ cls := "LockWatch$Watch", name := "depthOf", desc := "(LLockWatch$Plan;[III)I" } : Jvm.MethodName) prog_11_method_4_code (9 : Nat) (Option.some Jvm.ClassFile.FieldType.int)) ∈ lw_tbl := List.mem_of_getElem? (i := 1320) rfl
set_option maxRecDepth 30000 in
theorem w1324 : (Jvm.Cond.code ({ cls := "LockWatch", name := "image", desc := "(I)I" } : Jvm.MethodName) prog_1_method_34_code (2 : Nat) (Option.some Jvm.ClassFile.FieldType.int)) ∈ lw_tbl := List.mem_of_getElem? (i := 1324) rfl
set_option maxRecDepth 30000 in
theorem w1328 : (Jvm.Cond.code ({ cls := "LockWatch", name := "back", desc := "(I)I" } : Jvm.MethodName) prog_1_method_35_code (2 : Nat) (Option.some Jvm.ClassFile.FieldType.int)) ∈ lw_tbl := List.mem_of_getElem? (i := 1328) rfl
set_option maxRecDepth 30000 in
theorem w1332 : (Jvm.Cond.code ({ cls := "LockWatch", name := "about", desc := "(I)I" } : Jvm.MethodName) prog_1_method_36_code (3 : Nat) (Option.some Jvm.ClassFile.FieldType.int)) ∈ lw_tbl := List.mem_of_getElem? (i := 1332) rfl
set_option maxRecDepth 30000 in
theorem w1336 : (Jvm.Cond.code ({ cls := "LockWatch$Learnt", name := "runCount", desc := "()I" } : Jvm.MethodName) prog_5_method_5_code (3 : Nat) (Option.some Jvm.ClassFile.FieldType.int)) ∈ lw_tbl := List.mem_of_getElem? (i := 1336) rfl
set_option maxRecDepth 30000 in
theorem w1341 : (Jvm.Cond.code ({ cls := "LockWatchModel", name := "<init>", desc := "()V" } : Jvm.MethodName) prog_14_method_1_code (1 : Nat) (Option.none : Option Jvm.ClassFile.FieldType)) ∈ lw_tbl := List.mem_of_getElem? (i := 1341) rfl
set_option maxRecDepth 30000 in
theorem w1347 : (Jvm.Cond.code ({ cls := "LockWatchModel", name := "clearBank", desc := "(I)V" } : Jvm.MethodName) prog_14_method_6_code (2 : Nat) (Option.none : Option Jvm.ClassFile.FieldType)) ∈ lw_tbl := List.mem_of_getElem? (i := 1347) rfl
set_option maxRecDepth 30000 in
theorem w1351 : (Jvm.Cond.code ({ cls := "LockWatchModel", name := "startAnew", desc := "()V" } : Jvm.MethodName) prog_14_method_38_code (2 : Nat) (Option.none : Option Jvm.ClassFile.FieldType)) ∈ lw_tbl := List.mem_of_getElem? (i := 1351) rfl
set_option maxRecDepth 30000 in
theorem w1355 : (Jvm.Cond.code ({ cls := "LockWatchModel", name := "clearAll", desc := "()V" } : Jvm.MethodName) prog_14_method_39_code (2 : Nat) (Option.none : Option Jvm.ClassFile.FieldType)) ∈ lw_tbl := List.mem_of_getElem? (i := 1355) rfl
set_option maxRecDepth 30000 in
theorem w1534 : (Jvm.Cond.code ({ cls := "LockWatchModel", name := "feed", desc := "(IIIII)I" } : Jvm.MethodName) prog_14_method_7_code (8 : Nat) (Option.some Jvm.ClassFile.FieldType.int)) ∈ lw_tbl := List.mem_of_getElem? (i := 1534) rfl
set_option maxRecDepth 30000 in
theorem w1538 : (Jvm.Cond.code ({ cls := "LockWatchModel", name := "end", desc := "(I)I" } : Jvm.MethodName) prog_14_method_8_code (2 : Nat) (Option.some Jvm.ClassFile.FieldType.int)) ∈ lw_tbl := List.mem_of_getElem? (i := 1538) rfl
set_option maxRecDepth 30000 in
theorem w1542 : (Jvm.Cond.code ({ cls := "LockWatchModel", name := "store", desc := "()I" } : Jvm.MethodName) prog_14_method_28_code (2 : Nat) (Option.some Jvm.ClassFile.FieldType.int)) ∈ lw_tbl := List.mem_of_getElem? (i := 1542) rfl
set_option maxRecDepth 30000 in
theorem w1546 : (Jvm.Cond.code ({ cls := "LockWatchModel", name := "readAll", desc := "(I)V" } : Jvm.MethodName) prog_14_method_23_code (2 : Nat) (Option.none : Option Jvm.ClassFile.FieldType)) ∈ lw_tbl := List.mem_of_getElem? (i := 1546) rfl
set_option maxRecDepth 30000 in
theorem w1550 : (Jvm.Cond.code ({ cls := "LockWatchModel", name := "scan", desc := "()V" } : Jvm.MethodName) prog_14_method_12_code (1 : Nat) (Option.none : Option Jvm.ClassFile.FieldType)) ∈ lw_tbl := List.mem_of_getElem? (i := 1550) rfl
set_option maxRecDepth 30000 in
theorem w1554 : (Jvm.Cond.code ({ cls := "LockWatchModel", name := "isBlank", desc := "(I)Z" } : Jvm.MethodName) prog_14_method_11_code (2 : Nat) (Option.some Jvm.ClassFile.FieldType.boolean)) ∈ lw_tbl := List.mem_of_getElem? (i := 1554) rfl
set_option maxRecDepth 30000 in
theorem w1558 : (Jvm.Cond.code ({ cls := "LockWatchModel", name := "signAt", desc := "(I)I" } : Jvm.MethodName) prog_14_method_9_code (2 : Nat) (Option.some Jvm.ClassFile.FieldType.int)) ∈ lw_tbl := List.mem_of_getElem? (i := 1558) rfl
set_option maxRecDepth 30000 in
theorem w1561 : (Jvm.Cond.code ({ cls := "LockWatchModel", name := "isLetter", desc := "(I)Z" } : Jvm.MethodName) prog_14_method_10_code (1 : Nat) (Option.some Jvm.ClassFile.FieldType.boolean)) ∈ lw_tbl := List.mem_of_getElem? (i := 1561) rfl
set_option maxRecDepth 30000 in
theorem w1565 : (Jvm.Cond.code ({ cls := "LockWatchModel", name := "scanWord", desc := "()V" } : Jvm.MethodName) prog_14_method_13_code (4 : Nat) (Option.none : Option Jvm.ClassFile.FieldType)) ∈ lw_tbl := List.mem_of_getElem? (i := 1565) rfl
set_option maxRecDepth 30000 in
theorem w1569 : (Jvm.Cond.code ({ cls := "LockWatchModel", name := "isSame", desc := "(II)Z" } : Jvm.MethodName) prog_14_method_14_code (4 : Nat) (Option.some Jvm.ClassFile.FieldType.boolean)) ∈ lw_tbl := List.mem_of_getElem? (i := 1569) rfl
set_option maxRecDepth 30000 in
theorem w1573 : (Jvm.Cond.code ({ cls := "LockWatchModel", name := "readLine", desc := "(I)V" } : Jvm.MethodName) prog_14_method_24_code (2 : Nat) (Option.none : Option Jvm.ClassFile.FieldType)) ∈ lw_tbl := List.mem_of_getElem? (i := 1573) rfl
set_option maxRecDepth 30000 in
theorem w1577 : (Jvm.Cond.code ({ cls := "LockWatchModel", name := "isWord", desc := "(I)Z" } : Jvm.MethodName) prog_14_method_16_code (2 : Nat) (Option.some Jvm.ClassFile.FieldType.boolean)) ∈ lw_tbl := List.mem_of_getElem? (i := 1577) rfl
set_option maxRecDepth 30000 in
theorem w1581 : (Jvm.Cond.code ({ cls := "LockWatchModel", name := "fail", desc := "(I)V" } : Jvm.MethodName) prog_14_method_15_code (2 : Nat) (Option.none : Option Jvm.ClassFile.FieldType)) ∈ lw_tbl := List.mem_of_getElem? (i := 1581) rfl
set_option maxRecDepth 30000 in
theorem w1585 : (Jvm.Cond.code ({ cls := "LockWatchModel", name := "newName", desc := "(II)V" } : Jvm.MethodName) prog_14_method_21_code (3 : Nat) (Option.none : Option Jvm.ClassFile.FieldType)) ∈ lw_tbl := List.mem_of_getElem? (i := 1585) rfl
set_option maxRecDepth 30000 in
theorem w1589 : (Jvm.Cond.code ({ cls := "LockWatchModel", name := "isName", desc := "()Z" } : Jvm.MethodName) prog_14_method_17_code (1 : Nat) (Option.some Jvm.ClassFile.FieldType.boolean)) ∈ lw_tbl := List.mem_of_getElem? (i := 1589) rfl
set_option maxRecDepth 30000 in
theorem w1593 : (Jvm.Cond.code ({ cls := "LockWatchModel", name := "nameHere", desc := "()I" } : Jvm.MethodName) prog_14_method_20_code (2 : Nat) (Option.some Jvm.ClassFile.FieldType.int)) ∈ lw_tbl := List.mem_of_getElem? (i := 1593) rfl
set_option maxRecDepth 30000 in
theorem w1597 : (Jvm.Cond.code ({ cls := "LockWatchModel", name := "isNamed", desc := "(I)Z" } : Jvm.MethodName) prog_14_method_19_code (3 : Nat) (Option.some Jvm.ClassFile.FieldType.boolean)) ∈ lw_tbl := List.mem_of_getElem? (i := 1597) rfl
set_option maxRecDepth 30000 in
theorem w1601 : (Jvm.Cond.code ({ cls := "LockWatchModel", name := "readLock", desc := "(I)V" } : Jvm.MethodName) prog_14_method_25_code (3 : Nat) (Option.none : Option Jvm.ClassFile.FieldType)) ∈ lw_tbl := List.mem_of_getElem? (i := 1601) rfl
set_option maxRecDepth 30000 in
theorem w1605 : (Jvm.Cond.code ({ cls := "LockWatchModel", name := "oldName", desc := "(I)I" } : Jvm.MethodName) prog_14_method_22_code (3 : Nat) (Option.some Jvm.ClassFile.FieldType.int)) ∈ lw_tbl := List.mem_of_getElem? (i := 1605) rfl
set_option maxRecDepth 30000 in
theorem w1609 : (Jvm.Cond.code ({ cls := "LockWatchModel", name := "readProgram", desc := "(II)V" } : Jvm.MethodName) prog_14_method_26_code (4 : Nat) (Option.none : Option Jvm.ClassFile.FieldType)) ∈ lw_tbl := List.mem_of_getElem? (i := 1609) rfl
set_option maxRecDepth 30000 in
theorem w1613 : (Jvm.Cond.code ({ cls := "LockWatchModel", name := "isStop", desc := "()Z" } : Jvm.MethodName) prog_14_method_18_code (1 : Nat) (Option.some Jvm.ClassFile.FieldType.boolean)) ∈ lw_tbl := List.mem_of_getElem? (i := 1613) rfl
set_option maxRecDepth 30000 in
theorem w1617 : (Jvm.Cond.code ({ cls := "LockWatchModel", name := "readStep", desc := "(I)V" } : Jvm.MethodName) prog_14_method_27_code (4 : Nat) (Option.none : Option Jvm.ClassFile.FieldType)) ∈ lw_tbl := List.mem_of_getElem? (i := 1617) rfl
set_option maxRecDepth 30000 in
theorem w1620 : (Jvm.Cond.code ({ cls := "LockWatchModel", name := "isIn", desc := "(III)Z" } : Jvm.MethodName) prog_14_method_2_code (3 : Nat) (Option.some Jvm.ClassFile.FieldType.boolean)) ∈ lw_tbl := List.mem_of_getElem? (i := 1620) rfl
set_option maxRecDepth 30000 in
theorem w1624 : (Jvm.Cond.code ({ cls := "LockWatchModel", name := "fault", desc := "(I)I" } : Jvm.MethodName) prog_14_method_29_code (2 : Nat) (Option.some Jvm.ClassFile.FieldType.int)) ∈ lw_tbl := List.mem_of_getElem? (i := 1624) rfl
set_option maxRecDepth 30000 in
theorem w1628 : (Jvm.Cond.code ({ cls := "LockWatchModel", name := "runs", desc := "(I)I" } : Jvm.MethodName) prog_14_method_61_code (3 : Nat) (Option.some Jvm.ClassFile.FieldType.int)) ∈ lw_tbl := List.mem_of_getElem? (i := 1628) rfl
set_option maxRecDepth 30000 in
theorem w1632 : (Jvm.Cond.code ({ cls := "LockWatchModel", name := "isProgram", desc := "(I)Z" } : Jvm.MethodName) prog_14_method_30_code (2 : Nat) (Option.some Jvm.ClassFile.FieldType.boolean)) ∈ lw_tbl := List.mem_of_getElem? (i := 1632) rfl
set_option maxRecDepth 30000 in
theorem w1636 : (Jvm.Cond.code ({ cls := "LockWatchModel", name := "keepAct", desc := "()V" } : Jvm.MethodName) prog_14_method_125_code (2 : Nat) (Option.none : Option Jvm.ClassFile.FieldType)) ∈ lw_tbl := List.mem_of_getElem? (i := 1636) rfl
set_option maxRecDepth 30000 in
theorem w1641 : (Jvm.Cond.code ({ cls := "LockWatchModel", name := "goRun", desc := "(I)V" } : Jvm.MethodName) prog_14_method_60_code (3 : Nat) (Option.none : Option Jvm.ClassFile.FieldType)) ∈ lw_tbl := List.mem_of_getElem? (i := 1641) rfl
set_option maxRecDepth 30000 in
theorem w1645 : (Jvm.Cond.code ({ cls := "LockWatchModel", name := "stepsOf", desc := "(I)I" } : Jvm.MethodName) prog_14_method_34_code (2 : Nat) (Option.some Jvm.ClassFile.FieldType.int)) ∈ lw_tbl := List.mem_of_getElem? (i := 1645) rfl
set_option maxRecDepth 30000 in
theorem w1649 : (Jvm.Cond.code ({ cls := "LockWatchModel", name := "opOf", desc := "(II)I" } : Jvm.MethodName) prog_14_method_35_code (3 : Nat) (Option.some Jvm.ClassFile.FieldType.int)) ∈ lw_tbl := List.mem_of_getElem? (i := 1649) rfl
set_option maxRecDepth 30000 in
theorem w1653 : (Jvm.Cond.code ({ cls := "LockWatchModel", name := "doTake", desc := "(II)V" } : Jvm.MethodName) prog_14_method_58_code (6 : Nat) (Option.none : Option Jvm.ClassFile.FieldType)) ∈ lw_tbl := List.mem_of_getElem? (i := 1653) rfl
set_option maxRecDepth 30000 in
theorem w1657 : (Jvm.Cond.code ({ cls := "LockWatchModel", name := "lockOf", desc := "(II)I" } : Jvm.MethodName) prog_14_method_36_code (3 : Nat) (Option.some Jvm.ClassFile.FieldType.int)) ∈ lw_tbl := List.mem_of_getElem? (i := 1657) rfl
set_option maxRecDepth 30000 in
theorem w1661 : (Jvm.Cond.code ({ cls := "LockWatchModel", name := "placeHeld", desc := "(I)I" } : Jvm.MethodName) prog_14_method_45_code (3 : Nat) (Option.some Jvm.ClassFile.FieldType.int)) ∈ lw_tbl := List.mem_of_getElem? (i := 1661) rfl
set_option maxRecDepth 30000 in
theorem w1665 : (Jvm.Cond.code ({ cls := "LockWatchModel", name := "reportOne", desc := "(IIII)V" } : Jvm.MethodName) prog_14_method_51_code (5 : Nat) (Option.none : Option Jvm.ClassFile.FieldType)) ∈ lw_tbl := List.mem_of_getElem? (i := 1665) rfl
set_option maxRecDepth 30000 in
theorem w1669 : (Jvm.Cond.code ({ cls := "LockWatchModel", name := "report", desc := "(IIII)V" } : Jvm.MethodName) prog_14_method_50_code (7 : Nat) (Option.none : Option Jvm.ClassFile.FieldType)) ∈ lw_tbl := List.mem_of_getElem? (i := 1669) rfl
set_option maxRecDepth 30000 in
theorem w1672 : (Jvm.Cond.code ({ cls := "LockWatchModel", name := "atReport", desc := "(II)I" } : Jvm.MethodName) prog_14_method_46_code (2 : Nat) (Option.some Jvm.ClassFile.FieldType.int)) ∈ lw_tbl := List.mem_of_getElem? (i := 1672) rfl
set_option maxRecDepth 30000 in
theorem w1676 : (Jvm.Cond.code ({ cls := "LockWatchModel", name := "kind", desc := "(I)I" } : Jvm.MethodName) prog_14_method_37_code (2 : Nat) (Option.some Jvm.ClassFile.FieldType.int)) ∈ lw_tbl := List.mem_of_getElem? (i := 1676) rfl
set_option maxRecDepth 30000 in
theorem w1680 : (Jvm.Cond.code ({ cls := "LockWatchModel", name := "keepChain", desc := "(I)V" } : Jvm.MethodName) prog_14_method_57_code (6 : Nat) (Option.none : Option Jvm.ClassFile.FieldType)) ∈ lw_tbl := List.mem_of_getElem? (i := 1680) rfl
set_option maxRecDepth 30000 in
theorem w1684 : (Jvm.Cond.code ({ cls := "LockWatchModel", name := "learn", desc := "(III)V" } : Jvm.MethodName) prog_14_method_53_code (6 : Nat) (Option.none : Option Jvm.ClassFile.FieldType)) ∈ lw_tbl := List.mem_of_getElem? (i := 1684) rfl
set_option maxRecDepth 30000 in
theorem w1688 : (Jvm.Cond.code ({ cls := "LockWatchModel", name := "reportOnce", desc := "(IIII)V" } : Jvm.MethodName) prog_14_method_52_code (5 : Nat) (Option.none : Option Jvm.ClassFile.FieldType)) ∈ lw_tbl := List.mem_of_getElem? (i := 1688) rfl
set_option maxRecDepth 30000 in
theorem w1692 : (Jvm.Cond.code ({ cls := "LockWatchModel", name := "isReported", desc := "(III)Z" } : Jvm.MethodName) prog_14_method_49_code (5 : Nat) (Option.some Jvm.ClassFile.FieldType.boolean)) ∈ lw_tbl := List.mem_of_getElem? (i := 1692) rfl
set_option maxRecDepth 30000 in
theorem w1696 : (Jvm.Cond.code ({ cls := "LockWatchModel", name := "firstOf", desc := "(I)I" } : Jvm.MethodName) prog_14_method_48_code (2 : Nat) (Option.some Jvm.ClassFile.FieldType.int)) ∈ lw_tbl := List.mem_of_getElem? (i := 1696) rfl
set_option maxRecDepth 30000 in
theorem w1700 : (Jvm.Cond.code ({ cls := "LockWatchModel", name := "lastOf", desc := "(I)I" } : Jvm.MethodName) prog_14_method_47_code (2 : Nat) (Option.some Jvm.ClassFile.FieldType.int)) ∈ lw_tbl := List.mem_of_getElem? (i := 1700) rfl
set_option maxRecDepth 30000 in
theorem w1704 : (Jvm.Cond.code ({ cls := "LockWatchModel", name := "isEdge", desc := "(II)Z" } : Jvm.MethodName) prog_14_method_42_code (3 : Nat) (Option.some Jvm.ClassFile.FieldType.boolean)) ∈ lw_tbl := List.mem_of_getElem? (i := 1704) rfl
set_option maxRecDepth 30000 in
theorem w1708 : (Jvm.Cond.code ({ cls := "LockWatchModel", name := "learnEdge", desc := "(IIII)V" } : Jvm.MethodName) prog_14_method_54_code (7 : Nat) (Option.none : Option Jvm.ClassFile.FieldType)) ∈ lw_tbl := List.mem_of_getElem? (i := 1708) rfl
set_option maxRecDepth 30000 in
theorem w1712 : (Jvm.Cond.code ({ cls := "LockWatchModel", name := "layWay", desc := "(II)I" } : Jvm.MethodName) prog_14_method_43_code (8 : Nat) (Option.some Jvm.ClassFile.FieldType.int)) ∈ lw_tbl := List.mem_of_getElem? (i := 1712) rfl
set_option maxRecDepth 30000 in
theorem w1717 : (Jvm.Cond.code ({ cls := "LockWatchModel", name := "use", desc := "(III)V" } : Jvm.MethodName) prog_14_method_55_code (5 : Nat) (Option.none : Option Jvm.ClassFile.FieldType)) ∈ lw_tbl := List.mem_of_getElem? (i := 1717) rfl
set_option maxRecDepth 30000 in
theorem w1721 : (Jvm.Cond.code ({ cls := "LockWatchModel", name := "sortOf", desc := "(I)I" } : Jvm.MethodName) prog_14_method_33_code (2 : Nat) (Option.some Jvm.ClassFile.FieldType.int)) ∈ lw_tbl := List.mem_of_getElem? (i := 1721) rfl
set_option maxRecDepth 30000 in
theorem w1725 : (Jvm.Cond.code ({ cls := "LockWatchModel", name := "isOn", desc := "(IIZ)Z" } : Jvm.MethodName) prog_14_method_40_code (8 : Nat) (Option.some Jvm.ClassFile.FieldType.boolean)) ∈ lw_tbl := List.mem_of_getElem? (i := 1725) rfl
set_option maxRecDepth 30000 in
theorem w1729 : (Jvm.Cond.code ({ cls := "LockWatchModel", name := "canSoft", desc := "(II)Z" } : Jvm.MethodName) prog_14_method_41_code (3 : Nat) (Option.some Jvm.ClassFile.FieldType.boolean)) ∈ lw_tbl := List.mem_of_getElem? (i := 1729) rfl
set_option maxRecDepth 30000 in
theorem w1733 : (Jvm.Cond.code ({ cls := "LockWatchModel", name := "lookUnsafe", desc := "(IIIII)V" } : Jvm.MethodName) prog_14_method_56_code (9 : Nat) (Option.none : Option Jvm.ClassFile.FieldType)) ∈ lw_tbl := List.mem_of_getElem? (i := 1733) rfl
set_option maxRecDepth 30000 in
theorem w1737 : (Jvm.Cond.code ({ cls := "LockWatchModel", name := "doDrop", desc := "(II)V" } : Jvm.MethodName) prog_14_method_59_code (5 : Nat) (Option.none : Option Jvm.ClassFile.FieldType)) ∈ lw_tbl := List.mem_of_getElem? (i := 1737) rfl
set_option maxRecDepth 30000 in
theorem w1741 : (Jvm.Cond.code ({ cls := "LockWatchModel", name := "forget", desc := "()I" } : Jvm.MethodName) prog_14_method_62_code (2 : Nat) (Option.some Jvm.ClassFile.FieldType.int)) ∈ lw_tbl := List.mem_of_getElem? (i := 1741) rfl
set_option maxRecDepth 30000 in
theorem w1745 : (Jvm.Cond.code ({ cls := "LockWatchModel", name := "swap", desc := "(II)Z" } : Jvm.MethodName) prog_14_method_66_code (3 : Nat) (Option.some Jvm.ClassFile.FieldType.boolean)) ∈ lw_tbl := List.mem_of_getElem? (i := 1745) rfl
set_option maxRecDepth 30000 in
theorem w1749 : (Jvm.Cond.code ({ cls := "LockWatchModel", name := "isPair", desc := "(II)Z" } : Jvm.MethodName) prog_14_method_65_code (3 : Nat) (Option.some Jvm.ClassFile.FieldType.boolean)) ∈ lw_tbl := List.mem_of_getElem? (i := 1749) rfl
set_option maxRecDepth 30000 in
theorem w1753 : (Jvm.Cond.code ({ cls := "LockWatchModel", name := "swapSteps", desc := "(II)V" } : Jvm.MethodName) prog_14_method_64_code (3 : Nat) (Option.none : Option Jvm.ClassFile.FieldType)) ∈ lw_tbl := List.mem_of_getElem? (i := 1753) rfl
set_option maxRecDepth 30000 in
theorem w1757 : (Jvm.Cond.code ({ cls := "LockWatchModel", name := "swapAt", desc := "(I)V" } : Jvm.MethodName) prog_14_method_63_code (3 : Nat) (Option.none : Option Jvm.ClassFile.FieldType)) ∈ lw_tbl := List.mem_of_getElem? (i := 1757) rfl
set_option maxRecDepth 30000 in
theorem w1761 : (Jvm.Cond.code ({ cls := "LockWatchModel", name := "lock", desc := "(I)I" } : Jvm.MethodName) prog_14_method_67_code (2 : Nat) (Option.some Jvm.ClassFile.FieldType.int)) ∈ lw_tbl := List.mem_of_getElem? (i := 1761) rfl
set_option maxRecDepth 30000 in
theorem w1765 : (Jvm.Cond.code ({ cls := "LockWatchModel", name := "program", desc := "(II)I" } : Jvm.MethodName) prog_14_method_68_code (3 : Nat) (Option.some Jvm.ClassFile.FieldType.int)) ∈ lw_tbl := List.mem_of_getElem? (i := 1765) rfl
set_option maxRecDepth 30000 in
theorem w1769 : (Jvm.Cond.code ({ cls := "LockWatchModel", name := "step", desc := "(III)I" } : Jvm.MethodName) prog_14_method_69_code (4 : Nat) (Option.some Jvm.ClassFile.FieldType.int)) ∈ lw_tbl := List.mem_of_getElem? (i := 1769) rfl
set_option maxRecDepth 30000 in
theorem w1773 : (Jvm.Cond.code ({ cls := "LockWatchModel", name := "edge", desc := "(III)I" } : Jvm.MethodName) prog_14_method_70_code (5 : Nat) (Option.some Jvm.ClassFile.FieldType.int)) ∈ lw_tbl := List.mem_of_getElem? (i := 1773) rfl
set_option maxRecDepth 30000 in
theorem w1776 : (Jvm.Cond.code ({ cls := "LockWatchModel", name := "isNode", desc := "(I)Z" } : Jvm.MethodName) prog_14_method_31_code (1 : Nat) (Option.some Jvm.ClassFile.FieldType.boolean)) ∈ lw_tbl := List.mem_of_getElem? (i := 1776) rfl
set_option maxRecDepth 30000 in
theorem w1780 : (Jvm.Cond.code ({ cls := "LockWatchModel", name := "uses", desc := "(I)I" } : Jvm.MethodName) prog_14_method_71_code (2 : Nat) (Option.some Jvm.ClassFile.FieldType.int)) ∈ lw_tbl := List.mem_of_getElem? (i := 1780) rfl
set_option maxRecDepth 30000 in
theorem w1784 : (Jvm.Cond.code ({ cls := "LockWatchModel", name := "way", desc := "(III)I" } : Jvm.MethodName) prog_14_method_72_code (5 : Nat) (Option.some Jvm.ClassFile.FieldType.int)) ∈ lw_tbl := List.mem_of_getElem? (i := 1784) rfl
set_option maxRecDepth 30000 in
theorem w1788 : (Jvm.Cond.code ({ cls := "LockWatchModel", name := "reaches", desc := "(I)I" } : Jvm.MethodName) prog_14_method_73_code (4 : Nat) (Option.some Jvm.ClassFile.FieldType.int)) ∈ lw_tbl := List.mem_of_getElem? (i := 1788) rfl
set_option maxRecDepth 30000 in
theorem w1792 : (Jvm.Cond.code ({ cls := "LockWatchModel", name := "isWay", desc := "(II)Z" } : Jvm.MethodName) prog_14_method_44_code (3 : Nat) (Option.some Jvm.ClassFile.FieldType.boolean)) ∈ lw_tbl := List.mem_of_getElem? (i := 1792) rfl
set_option maxRecDepth 30000 in
theorem w1796 : (Jvm.Cond.code ({ cls := "LockWatchModel", name := "report", desc := "(II)I" } : Jvm.MethodName) prog_14_method_75_code (3 : Nat) (Option.some Jvm.ClassFile.FieldType.int)) ∈ lw_tbl := List.mem_of_getElem? (i := 1796) rfl
set_option maxRecDepth 30000 in
theorem w1800 : (Jvm.Cond.code ({ cls := "LockWatchModel", name := "isReport", desc := "(I)Z" } : Jvm.MethodName) prog_14_method_74_code (2 : Nat) (Option.some Jvm.ClassFile.FieldType.boolean)) ∈ lw_tbl := List.mem_of_getElem? (i := 1800) rfl
set_option maxRecDepth 30000 in
theorem w1804 : (Jvm.Cond.code ({ cls := "LockWatchModel", name := "chain", desc := "(II)I" } : Jvm.MethodName) prog_14_method_76_code (3 : Nat) (Option.some Jvm.ClassFile.FieldType.int)) ∈ lw_tbl := List.mem_of_getElem? (i := 1804) rfl
set_option maxRecDepth 30000 in
theorem w1808 : (Jvm.Cond.code ({ cls := "LockWatchModel", name := "would", desc := "(II)I" } : Jvm.MethodName) prog_14_method_80_code (5 : Nat) (Option.some Jvm.ClassFile.FieldType.int)) ∈ lw_tbl := List.mem_of_getElem? (i := 1808) rfl
set_option maxRecDepth 30000 in
theorem w1812 : (Jvm.Cond.code ({ cls := "LockWatchModel", name := "putAside", desc := "()V" } : Jvm.MethodName) prog_14_method_78_code (2 : Nat) (Option.none : Option Jvm.ClassFile.FieldType)) ∈ lw_tbl := List.mem_of_getElem? (i := 1812) rfl
set_option maxRecDepth 30000 in
theorem w1816 : (Jvm.Cond.code ({ cls := "LockWatchModel", name := "edges", desc := "()I" } : Jvm.MethodName) prog_14_method_77_code (3 : Nat) (Option.some Jvm.ClassFile.FieldType.int)) ∈ lw_tbl := List.mem_of_getElem? (i := 1816) rfl
set_option maxRecDepth 30000 in
theorem w1820 : (Jvm.Cond.code ({ cls := "LockWatchModel", name := "bringBack", desc := "()V" } : Jvm.MethodName) prog_14_method_79_code (2 : Nat) (Option.none : Option Jvm.ClassFile.FieldType)) ∈ lw_tbl := List.mem_of_getElem? (i := 1820) rfl
set_option maxRecDepth 30000 in
theorem w1824 : (Jvm.Cond.code ({ cls := "LockWatchModel", name := "all", desc := "(I)I" } : Jvm.MethodName) prog_14_method_82_code (4 : Nat) (Option.some Jvm.ClassFile.FieldType.int)) ∈ lw_tbl := List.mem_of_getElem? (i := 1824) rfl
set_option maxRecDepth 30000 in
theorem w1828 : (Jvm.Cond.code ({ cls := "LockWatchModel", name := "goAll", desc := "()V" } : Jvm.MethodName) prog_14_method_81_code (2 : Nat) (Option.none : Option Jvm.ClassFile.FieldType)) ∈ lw_tbl := List.mem_of_getElem? (i := 1828) rfl
set_option maxRecDepth 30000 in
theorem w1832 : (Jvm.Cond.code ({ cls := "LockWatchModel", name := "bestSwap", desc := "(I)I" } : Jvm.MethodName) prog_14_method_83_code (7 : Nat) (Option.some Jvm.ClassFile.FieldType.int)) ∈ lw_tbl := List.mem_of_getElem? (i := 1832) rfl
set_option maxRecDepth 30000 in
theorem w1837 : (Jvm.Cond.code ({ cls := "LockWatchModel", name := "eased", desc := "(II)I" } : Jvm.MethodName) prog_14_method_84_code (6 : Nat) (Option.some Jvm.ClassFile.FieldType.int)) ∈ lw_tbl := List.mem_of_getElem? (i := 1837) rfl
set_option maxRecDepth 30000 in
theorem w1841 : (Jvm.Cond.code ({ cls := "LockWatchModel", name := "stuck", desc := "(II)I" } : Jvm.MethodName) prog_14_method_115_code (3 : Nat) (Option.some Jvm.ClassFile.FieldType.int)) ∈ lw_tbl := List.mem_of_getElem? (i := 1841) rfl
set_option maxRecDepth 30000 in
theorem w1845 : (Jvm.Cond.code ({ cls := "LockWatchModel", name := "isSet", desc := "(I)Z" } : Jvm.MethodName) prog_14_method_114_code (4 : Nat) (Option.some Jvm.ClassFile.FieldType.boolean)) ∈ lw_tbl := List.mem_of_getElem? (i := 1845) rfl
set_option maxRecDepth 30000 in
theorem w1848 : (Jvm.Cond.code ({ cls := "LockWatchModel", name := "has", desc := "(II)Z" } : Jvm.MethodName) prog_14_method_3_code (2 : Nat) (Option.some Jvm.ClassFile.FieldType.boolean)) ∈ lw_tbl := List.mem_of_getElem? (i := 1848) rfl
set_option maxRecDepth 30000 in
theorem w1852 : (Jvm.Cond.code ({ cls := "LockWatchModel", name := "search", desc := "(I)Z" } : Jvm.MethodName) prog_14_method_106_code (4 : Nat) (Option.some Jvm.ClassFile.FieldType.boolean)) ∈ lw_tbl := List.mem_of_getElem? (i := 1852) rfl
set_option maxRecDepth 30000 in
theorem w1856 : (Jvm.Cond.code ({ cls := "LockWatchModel", name := "beginMoments", desc := "(I)V" } : Jvm.MethodName) prog_14_method_105_code (4 : Nat) (Option.none : Option Jvm.ClassFile.FieldType)) ∈ lw_tbl := List.mem_of_getElem? (i := 1856) rfl
set_option maxRecDepth 30000 in
theorem w1860 : (Jvm.Cond.code ({ cls := "LockWatchModel", name := "isIn0", desc := "(I)Z" } : Jvm.MethodName) prog_14_method_94_code (2 : Nat) (Option.some Jvm.ClassFile.FieldType.boolean)) ∈ lw_tbl := List.mem_of_getElem? (i := 1860) rfl
set_option maxRecDepth 30000 in
theorem w1864 : (Jvm.Cond.code ({ cls := "LockWatchModel", name := "come", desc := "(III)Z" } : Jvm.MethodName) prog_14_method_104_code (6 : Nat) (Option.some Jvm.ClassFile.FieldType.boolean)) ∈ lw_tbl := List.mem_of_getElem? (i := 1864) rfl
set_option maxRecDepth 30000 in
theorem w1868 : (Jvm.Cond.code ({ cls := "LockWatchModel", name := "pack", desc := "(I)V" } : Jvm.MethodName) prog_14_method_101_code (4 : Nat) (Option.none : Option Jvm.ClassFile.FieldType)) ∈ lw_tbl := List.mem_of_getElem? (i := 1868) rfl
set_option maxRecDepth 30000 in
theorem w1872 : (Jvm.Cond.code ({ cls := "LockWatchModel", name := "isLike", desc := "(II)Z" } : Jvm.MethodName) prog_14_method_103_code (4 : Nat) (Option.some Jvm.ClassFile.FieldType.boolean)) ∈ lw_tbl := List.mem_of_getElem? (i := 1872) rfl
set_option maxRecDepth 30000 in
theorem w1876 : (Jvm.Cond.code ({ cls := "LockWatchModel", name := "layRing", desc := "()Z" } : Jvm.MethodName) prog_14_method_110_code (5 : Nat) (Option.some Jvm.ClassFile.FieldType.boolean)) ∈ lw_tbl := List.mem_of_getElem? (i := 1876) rfl
set_option maxRecDepth 30000 in
theorem w1880 : (Jvm.Cond.code ({ cls := "LockWatchModel", name := "layWaits", desc := "()V" } : Jvm.MethodName) prog_14_method_108_code (5 : Nat) (Option.none : Option Jvm.ClassFile.FieldType)) ∈ lw_tbl := List.mem_of_getElem? (i := 1880) rfl
set_option maxRecDepth 30000 in
theorem w1884 : (Jvm.Cond.code ({ cls := "LockWatchModel", name := "isTask", desc := "(I)Z" } : Jvm.MethodName) prog_14_method_95_code (2 : Nat) (Option.some Jvm.ClassFile.FieldType.boolean)) ∈ lw_tbl := List.mem_of_getElem? (i := 1884) rfl
set_option maxRecDepth 30000 in
theorem w1888 : (Jvm.Cond.code ({ cls := "LockWatchModel", name := "goesOn", desc := "(I)I" } : Jvm.MethodName) prog_14_method_97_code (5 : Nat) (Option.some Jvm.ClassFile.FieldType.int)) ∈ lw_tbl := List.mem_of_getElem? (i := 1888) rfl
set_option maxRecDepth 30000 in
theorem w1892 : (Jvm.Cond.code ({ cls := "LockWatchModel", name := "isThrough", desc := "(I)Z" } : Jvm.MethodName) prog_14_method_96_code (2 : Nat) (Option.some Jvm.ClassFile.FieldType.boolean)) ∈ lw_tbl := List.mem_of_getElem? (i := 1892) rfl
set_option maxRecDepth 30000 in
theorem w1896 : (Jvm.Cond.code ({ cls := "LockWatchModel", name := "isWaiting", desc := "(I)Z" } : Jvm.MethodName) prog_14_method_98_code (4 : Nat) (Option.some Jvm.ClassFile.FieldType.boolean)) ∈ lw_tbl := List.mem_of_getElem? (i := 1896) rfl
set_option maxRecDepth 30000 in
theorem w1900 : (Jvm.Cond.code ({ cls := "LockWatchModel", name := "layApart", desc := "(I)V" } : Jvm.MethodName) prog_14_method_109_code (5 : Nat) (Option.none : Option Jvm.ClassFile.FieldType)) ∈ lw_tbl := List.mem_of_getElem? (i := 1900) rfl
set_option maxRecDepth 30000 in
theorem w1904 : (Jvm.Cond.code ({ cls := "LockWatchModel", name := "goFrom", desc := "(I)Z" } : Jvm.MethodName) prog_14_method_107_code (6 : Nat) (Option.some Jvm.ClassFile.FieldType.boolean)) ∈ lw_tbl := List.mem_of_getElem? (i := 1904) rfl
set_option maxRecDepth 30000 in
theorem w1908 : (Jvm.Cond.code ({ cls := "LockWatchModel", name := "unpack", desc := "(I)V" } : Jvm.MethodName) prog_14_method_102_code (4 : Nat) (Option.none : Option Jvm.ClassFile.FieldType)) ∈ lw_tbl := List.mem_of_getElem? (i := 1908) rfl
set_option maxRecDepth 30000 in
theorem w1912 : (Jvm.Cond.code ({ cls := "LockWatchModel", name := "doMove", desc := "(I)V" } : Jvm.MethodName) prog_14_method_99_code (4 : Nat) (Option.none : Option Jvm.ClassFile.FieldType)) ∈ lw_tbl := List.mem_of_getElem? (i := 1912) rfl
set_option maxRecDepth 30000 in
theorem w1916 : (Jvm.Cond.code ({ cls := "LockWatchModel", name := "canCome", desc := "(II)Z" } : Jvm.MethodName) prog_14_method_100_code (3 : Nat) (Option.some Jvm.ClassFile.FieldType.boolean)) ∈ lw_tbl := List.mem_of_getElem? (i := 1916) rfl
set_option maxRecDepth 30000 in
theorem w1920 : (Jvm.Cond.code ({ cls := "LockWatchModel", name := "movesTo", desc := "(I)I" } : Jvm.MethodName) prog_14_method_113_code (4 : Nat) (Option.some Jvm.ClassFile.FieldType.int)) ∈ lw_tbl := List.mem_of_getElem? (i := 1920) rfl
set_option maxRecDepth 30000 in
theorem w1924 : (Jvm.Cond.code ({ cls := "LockWatchModel", name := "ringTasks", desc := "()I" } : Jvm.MethodName) prog_14_method_111_code (3 : Nat) (Option.some Jvm.ClassFile.FieldType.int)) ∈ lw_tbl := List.mem_of_getElem? (i := 1924) rfl
set_option maxRecDepth 30000 in
theorem w1928 : (Jvm.Cond.code ({ cls := "LockWatchModel", name := "ringLocks", desc := "()I" } : Jvm.MethodName) prog_14_method_112_code (3 : Nat) (Option.some Jvm.ClassFile.FieldType.int)) ∈ lw_tbl := List.mem_of_getElem? (i := 1928) rfl
set_option maxRecDepth 30000 in
theorem w1932 : (Jvm.Cond.code ({ cls := "LockWatchModel", name := "spell", desc := "(III)I" } : Jvm.MethodName) prog_14_method_85_code (12 : Nat) (Option.some Jvm.ClassFile.FieldType.int)) ∈ lw_tbl := List.mem_of_getElem? (i := 1932) rfl
set_option maxRecDepth 30000 in
theorem w1935 : (Jvm.Cond.code ({ cls := "LockWatchModel", name := "more", desc := "(II)I" } : Jvm.MethodName) prog_14_method_4_code (2 : Nat) (Option.some Jvm.ClassFile.FieldType.int)) ∈ lw_tbl := List.mem_of_getElem? (i := 1935) rfl
set_option maxRecDepth 30000 in
theorem w1939 : (Jvm.Cond.code ({ cls := "LockWatchModel", name := "order", desc := "(I)I" } : Jvm.MethodName) prog_14_method_88_code (3 : Nat) (Option.some Jvm.ClassFile.FieldType.int)) ∈ lw_tbl := List.mem_of_getElem? (i := 1939) rfl
set_option maxRecDepth 30000 in
theorem w1943 : (Jvm.Cond.code ({ cls := "LockWatchModel", name := "layOrder", desc := "()I" } : Jvm.MethodName) prog_14_method_86_code (5 : Nat) (Option.some Jvm.ClassFile.FieldType.int)) ∈ lw_tbl := List.mem_of_getElem? (i := 1943) rfl
set_option maxRecDepth 30000 in
theorem w1947 : (Jvm.Cond.code ({ cls := "LockWatchModel", name := "isLedTo", desc := "(II)Z" } : Jvm.MethodName) prog_14_method_87_code (4 : Nat) (Option.some Jvm.ClassFile.FieldType.boolean)) ∈ lw_tbl := List.mem_of_getElem? (i := 1947) rfl
set_option maxRecDepth 30000 in
theorem w1951 : (Jvm.Cond.code ({ cls := "LockWatchModel", name := "mends", desc := "(I)I" } : Jvm.MethodName) prog_14_method_92_code (4 : Nat) (Option.some Jvm.ClassFile.FieldType.int)) ∈ lw_tbl := List.mem_of_getElem? (i := 1951) rfl
set_option maxRecDepth 30000 in
theorem w1955 : (Jvm.Cond.code ({ cls := "LockWatchModel", name := "canMend", desc := "(III)Z" } : Jvm.MethodName) prog_14_method_89_code (7 : Nat) (Option.some Jvm.ClassFile.FieldType.boolean)) ∈ lw_tbl := List.mem_of_getElem? (i := 1955) rfl
set_option maxRecDepth 30000 in
theorem w1959 : (Jvm.Cond.code ({ cls := "LockWatchModel", name := "canMendMore", desc := "(III)Z" } : Jvm.MethodName) prog_14_method_90_code (7 : Nat) (Option.some Jvm.ClassFile.FieldType.boolean)) ∈ lw_tbl := List.mem_of_getElem? (i := 1959) rfl
set_option maxRecDepth 30000 in
theorem w1963 : (Jvm.Cond.code ({ cls := "LockWatchModel", name := "canMendLast", desc := "(II)Z" } : Jvm.MethodName) prog_14_method_91_code (6 : Nat) (Option.some Jvm.ClassFile.FieldType.boolean)) ∈ lw_tbl := List.mem_of_getElem? (i := 1963) rfl
set_option maxRecDepth 30000 in
theorem w1967 : (Jvm.Cond.code ({ cls := "LockWatchModel", name := "depth", desc := "(II)I" } : Jvm.MethodName) prog_14_method_93_code (7 : Nat) (Option.some Jvm.ClassFile.FieldType.int)) ∈ lw_tbl := List.mem_of_getElem? (i := 1967) rfl
set_option maxRecDepth 30000 in
theorem w1972 : (Jvm.Cond.code ({ cls := "LockWatchModel", name := "move", desc := "(III)I" } : Jvm.MethodName) prog_14_method_116_code (7 : Nat) (Option.some Jvm.ClassFile.FieldType.int)) ∈ lw_tbl := List.mem_of_getElem? (i := 1972) rfl
set_option maxRecDepth 30000 in
theorem w1976 : (Jvm.Cond.code ({ cls := "LockWatchModel", name := "clash", desc := "(II)I" } : Jvm.MethodName) prog_14_method_117_code (5 : Nat) (Option.some Jvm.ClassFile.FieldType.int)) ∈ lw_tbl := List.mem_of_getElem? (i := 1976) rfl
set_option maxRecDepth 30000 in
theorem w1980 : (Jvm.Cond.code ({ cls := "LockWatchModel", name := "least", desc := "()I" } : Jvm.MethodName) prog_14_method_119_code (1 : Nat) (Option.some Jvm.ClassFile.FieldType.int)) ∈ lw_tbl := List.mem_of_getElem? (i := 1980) rfl
set_option maxRecDepth 30000 in
theorem w1984 : (Jvm.Cond.code ({ cls := "LockWatchModel", name := "leastNow", desc := "()I" } : Jvm.MethodName) prog_14_method_118_code (3 : Nat) (Option.some Jvm.ClassFile.FieldType.int)) ∈ lw_tbl := List.mem_of_getElem? (i := 1984) rfl
set_option maxRecDepth 30000 in
theorem w1987 : (Jvm.Cond.code ({ cls := "LockWatchModel", name := "size", desc := "(I)I" } : Jvm.MethodName) prog_14_method_5_code (3 : Nat) (Option.some Jvm.ClassFile.FieldType.int)) ∈ lw_tbl := List.mem_of_getElem? (i := 1987) rfl
set_option maxRecDepth 30000 in
theorem w1991 : (Jvm.Cond.code ({ cls := "LockWatchModel", name := "missed", desc := "()I" } : Jvm.MethodName) prog_14_method_122_code (4 : Nat) (Option.some Jvm.ClassFile.FieldType.int)) ∈ lw_tbl := List.mem_of_getElem? (i := 1991) rfl
set_option maxRecDepth 30000 in
theorem w1995 : (Jvm.Cond.code ({ cls := "LockWatchModel", name := "kindsTold", desc := "()I" } : Jvm.MethodName) prog_14_method_120_code (3 : Nat) (Option.some Jvm.ClassFile.FieldType.int)) ∈ lw_tbl := List.mem_of_getElem? (i := 1995) rfl
set_option maxRecDepth 30000 in
theorem w1999 : (Jvm.Cond.code ({ cls := "LockWatchModel", name := "kindsOf", desc := "(I)I" } : Jvm.MethodName) prog_14_method_121_code (4 : Nat) (Option.some Jvm.ClassFile.FieldType.int)) ∈ lw_tbl := List.mem_of_getElem? (i := 1999) rfl
set_option maxRecDepth 30000 in
theorem w2003 : (Jvm.Cond.code ({ cls := "LockWatchModel", name := "proves", desc := "(I)I" } : Jvm.MethodName) prog_14_method_124_code (4 : Nat) (Option.some Jvm.ClassFile.FieldType.int)) ∈ lw_tbl := List.mem_of_getElem? (i := 2003) rfl
set_option maxRecDepth 30000 in
theorem w2007 : (Jvm.Cond.code ({ cls := "LockWatchModel", name := "areOf", desc := "(II)Z" } : Jvm.MethodName) prog_14_method_123_code (4 : Nat) (Option.some Jvm.ClassFile.FieldType.boolean)) ∈ lw_tbl := List.mem_of_getElem? (i := 2007) rfl
set_option maxRecDepth 30000 in
theorem w2011 : (Jvm.Cond.code ({ cls := "LockWatchModel", name := "undo", desc := "()Z" } : Jvm.MethodName) prog_14_method_127_code (1 : Nat) (Option.some Jvm.ClassFile.FieldType.boolean)) ∈ lw_tbl := List.mem_of_getElem? (i := 2011) rfl
set_option maxRecDepth 30000 in
theorem w2015 : (Jvm.Cond.code ({ cls := "LockWatchModel", name := "swapAll", desc := "()V" } : Jvm.MethodName) prog_14_method_126_code (3 : Nat) (Option.none : Option Jvm.ClassFile.FieldType)) ∈ lw_tbl := List.mem_of_getElem? (i := 2015) rfl
set_option maxRecDepth 30000 in
theorem w2019 : (Jvm.Cond.code ({ cls := "LockWatchModel", name := "redo", desc := "()Z" } : Jvm.MethodName) prog_14_method_128_code (1 : Nat) (Option.some Jvm.ClassFile.FieldType.boolean)) ∈ lw_tbl := List.mem_of_getElem? (i := 2019) rfl
set_option maxRecDepth 30000 in
theorem w2023 : (Jvm.Cond.code ({ cls := "LockWatchModel", name := "image", desc := "(I)I" } : Jvm.MethodName) prog_14_method_129_code (3 : Nat) (Option.some Jvm.ClassFile.FieldType.int)) ∈ lw_tbl := List.mem_of_getElem? (i := 2023) rfl
set_option maxRecDepth 30000 in
theorem w2027 : (Jvm.Cond.code ({ cls := "LockWatchModel", name := "back", desc := "(I)I" } : Jvm.MethodName) prog_14_method_130_code (3 : Nat) (Option.some Jvm.ClassFile.FieldType.int)) ∈ lw_tbl := List.mem_of_getElem? (i := 2027) rfl
set_option maxRecDepth 30000 in
theorem w2031 : (Jvm.Cond.code ({ cls := "LockWatchModel", name := "about", desc := "(I)I" } : Jvm.MethodName) prog_14_method_132_code (2 : Nat) (Option.some Jvm.ClassFile.FieldType.int)) ∈ lw_tbl := List.mem_of_getElem? (i := 2031) rfl
set_option maxRecDepth 30000 in
theorem w2035 : (Jvm.Cond.code ({ cls := "LockWatchModel", name := "runsAll", desc := "()I" } : Jvm.MethodName) prog_14_method_131_code (3 : Nat) (Option.some Jvm.ClassFile.FieldType.int)) ∈ lw_tbl := List.mem_of_getElem? (i := 2035) rfl
