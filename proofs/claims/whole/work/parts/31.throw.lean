theorem w_125 : Cond.initialized "java/lang/Throwable" ∈ pv_TB := pv_mem (i := 125) (by decide +kernel) (by decide +kernel)
theorem w_780 : Cond.superclass "java/lang/Throwable" "java/lang/Object" ∈ pv_TB := pv_mem (i := 780) (by decide +kernel) (by decide +kernel)
theorem w_789 : Cond.instanceMethod ⟨"java/lang/Throwable", "fillInStackTrace", "()Ljava/lang/Throwable;"⟩ ∈ pv_TB := pv_mem (i := 789) (by decide +kernel) (by decide +kernel)
theorem w_794 : Cond.codeSync ⟨"java/lang/Throwable", "fillInStackTrace", "()Ljava/lang/Throwable;"⟩ prog_21_method_18_code 1 (Option.some (.object "java/lang/Throwable")) ∈ pv_TB := pv_mem (i := 794) (by decide +kernel) (by decide +kernel)
theorem w_797 : Cond.instanceMethod ⟨"java/lang/Throwable", "fillInStackTrace", "(I)Ljava/lang/Throwable;"⟩ ∈ pv_TB := pv_mem (i := 797) (by decide +kernel) (by decide +kernel)
theorem w_799 : Cond.native ⟨"java/lang/Throwable", "fillInStackTrace", "(I)Ljava/lang/Throwable;"⟩ ∈ pv_TB := pv_mem (i := 799) (by decide +kernel) (by decide +kernel)
theorem w_781 : Cond.instanceMethod ⟨"java/lang/Throwable", "<init>", "()V"⟩ ∈ pv_TB := pv_mem (i := 781) (by decide +kernel) (by decide +kernel)
theorem w_782 : Cond.code ⟨"java/lang/Throwable", "<init>", "()V"⟩ prog_21_method_1_code 1 (Option.none : Option Jvm.ClassFile.FieldType) ∈ pv_TB := pv_mem (i := 782) (by decide +kernel) (by decide +kernel)
theorem w_138 : Cond.instanceMethod ⟨"java/lang/Object", "<init>", "()V"⟩ ∈ pv_TB := pv_mem (i := 138) (by decide +kernel) (by decide +kernel)
theorem w_139 : Cond.code ⟨"java/lang/Object", "<init>", "()V"⟩ object_method_1_code 1 (Option.none : Option Jvm.ClassFile.FieldType) ∈ pv_TB := pv_mem (i := 139) (by decide +kernel) (by decide +kernel)
theorem w_783 : Cond.methodLink "java/lang/Throwable" 1 ⟨"java/lang/Object", "<init>", "()V"⟩ ∈ pv_TB := pv_mem (i := 783) (by decide +kernel) (by decide +kernel)
theorem w_788 : Cond.methodLink "java/lang/Throwable" 27 ⟨"java/lang/Throwable", "fillInStackTrace", "()Ljava/lang/Throwable;"⟩ ∈ pv_TB := pv_mem (i := 788) (by decide +kernel) (by decide +kernel)
theorem w_795 : Cond.methodLink "java/lang/Throwable" 202 ⟨"java/lang/Throwable", "fillInStackTrace", "(I)Ljava/lang/Throwable;"⟩ ∈ pv_TB := pv_mem (i := 795) (by decide +kernel) (by decide +kernel)
theorem w_815 : Cond.fieldLink "java/lang/Throwable" 7 "java/lang/Throwable" "cause" "Ljava/lang/Throwable;" ∈ pv_TB := pv_mem (i := 815) (by decide +kernel) (by decide +kernel)
theorem w_770 : Cond.lays "java/lang/Throwable" "java/lang/Throwable" "cause" "Ljava/lang/Throwable;" ∈ pv_TB := pv_mem (i := 770) (by decide +kernel) (by decide +kernel)
theorem w_816 : Cond.fieldLink "java/lang/Throwable" 17 "java/lang/Throwable" "stackTrace" "[Ljava/lang/StackTraceElement;" ∈ pv_TB := pv_mem (i := 816) (by decide +kernel) (by decide +kernel)
theorem w_772 : Cond.lays "java/lang/Throwable" "java/lang/Throwable" "stackTrace" "[Ljava/lang/StackTraceElement;" ∈ pv_TB := pv_mem (i := 772) (by decide +kernel) (by decide +kernel)
theorem w_817 : Cond.fieldLink "java/lang/Throwable" 24 "java/lang/Throwable" "suppressedExceptions" "Ljava/util/List;" ∈ pv_TB := pv_mem (i := 817) (by decide +kernel) (by decide +kernel)
theorem w_774 : Cond.lays "java/lang/Throwable" "java/lang/Throwable" "suppressedExceptions" "Ljava/util/List;" ∈ pv_TB := pv_mem (i := 774) (by decide +kernel) (by decide +kernel)
theorem w_784 : Cond.fieldLink "java/lang/Throwable" 13 "java/lang/Throwable" "UNASSIGNED_STACK" "[Ljava/lang/StackTraceElement;" ∈ pv_TB := pv_mem (i := 784) (by decide +kernel) (by decide +kernel)
theorem w_786 : Cond.fieldLink "java/lang/Throwable" 20 "java/lang/Throwable" "SUPPRESSED_SENTINEL" "Ljava/util/List;" ∈ pv_TB := pv_mem (i := 786) (by decide +kernel) (by decide +kernel)
theorem w_776 : Cond.lays "java/lang/Throwable" "java/lang/Throwable" "detailMessage" "Ljava/lang/String;" ∈ pv_TB := pv_mem (i := 776) (by decide +kernel) (by decide +kernel)
theorem w_811 : Cond.instanceMethod ⟨"java/lang/Throwable", "<init>", "(Ljava/lang/String;)V"⟩ ∈ pv_TB := pv_mem (i := 811) (by decide +kernel) (by decide +kernel)
theorem w_812 : Cond.code ⟨"java/lang/Throwable", "<init>", "(Ljava/lang/String;)V"⟩ prog_21_method_2_code 2 (Option.none : Option Jvm.ClassFile.FieldType) ∈ pv_TB := pv_mem (i := 812) (by decide +kernel) (by decide +kernel)
theorem w_814 : Cond.fieldLink "java/lang/Throwable" 31 "java/lang/Throwable" "detailMessage" "Ljava/lang/String;" ∈ pv_TB := pv_mem (i := 814) (by decide +kernel) (by decide +kernel)
theorem w_802 : Cond.instanceMethod ⟨"java/lang/IndexOutOfBoundsException", "<init>", "(Ljava/lang/String;)V"⟩ ∈ pv_TB := pv_mem (i := 802) (by decide +kernel) (by decide +kernel)
theorem w_803 : Cond.code ⟨"java/lang/IndexOutOfBoundsException", "<init>", "(Ljava/lang/String;)V"⟩ prog_13_method_2_code 2 (Option.none : Option Jvm.ClassFile.FieldType) ∈ pv_TB := pv_mem (i := 803) (by decide +kernel) (by decide +kernel)
theorem w_804 : Cond.methodLink "java/lang/IndexOutOfBoundsException" 7 ⟨"java/lang/RuntimeException", "<init>", "(Ljava/lang/String;)V"⟩ ∈ pv_TB := pv_mem (i := 804) (by decide +kernel) (by decide +kernel)
theorem w_805 : Cond.instanceMethod ⟨"java/lang/RuntimeException", "<init>", "(Ljava/lang/String;)V"⟩ ∈ pv_TB := pv_mem (i := 805) (by decide +kernel) (by decide +kernel)
theorem w_806 : Cond.code ⟨"java/lang/RuntimeException", "<init>", "(Ljava/lang/String;)V"⟩ prog_16_method_2_code 2 (Option.none : Option Jvm.ClassFile.FieldType) ∈ pv_TB := pv_mem (i := 806) (by decide +kernel) (by decide +kernel)
theorem w_807 : Cond.methodLink "java/lang/RuntimeException" 7 ⟨"java/lang/Exception", "<init>", "(Ljava/lang/String;)V"⟩ ∈ pv_TB := pv_mem (i := 807) (by decide +kernel) (by decide +kernel)
theorem w_808 : Cond.instanceMethod ⟨"java/lang/Exception", "<init>", "(Ljava/lang/String;)V"⟩ ∈ pv_TB := pv_mem (i := 808) (by decide +kernel) (by decide +kernel)
theorem w_809 : Cond.code ⟨"java/lang/Exception", "<init>", "(Ljava/lang/String;)V"⟩ prog_10_method_2_code 2 (Option.none : Option Jvm.ClassFile.FieldType) ∈ pv_TB := pv_mem (i := 809) (by decide +kernel) (by decide +kernel)
theorem w_810 : Cond.methodLink "java/lang/Exception" 7 ⟨"java/lang/Throwable", "<init>", "(Ljava/lang/String;)V"⟩ ∈ pv_TB := pv_mem (i := 810) (by decide +kernel) (by decide +kernel)
theorem w_801 : Cond.methodLink "PatchVoices" 94 ⟨"java/lang/IndexOutOfBoundsException", "<init>", "(Ljava/lang/String;)V"⟩ ∈ pv_TB := pv_mem (i := 801) (by decide +kernel) (by decide +kernel)
theorem w_767 : Cond.selects "java/lang/IndexOutOfBoundsException" ⟨"java/lang/Throwable", "fillInStackTrace", "(I)Ljava/lang/Throwable;"⟩ ⟨"java/lang/Throwable", "fillInStackTrace", "(I)Ljava/lang/Throwable;"⟩ ∈ pv_TB := pv_mem (i := 767) (by decide +kernel) (by decide +kernel)
theorem w_768 : Cond.selects "java/lang/IndexOutOfBoundsException" ⟨"java/lang/Throwable", "fillInStackTrace", "()Ljava/lang/Throwable;"⟩ ⟨"java/lang/Throwable", "fillInStackTrace", "()Ljava/lang/Throwable;"⟩ ∈ pv_TB := pv_mem (i := 768) (by decide +kernel) (by decide +kernel)
theorem w_769 : Cond.lays "java/lang/IndexOutOfBoundsException" "java/lang/Throwable" "cause" "Ljava/lang/Throwable;" ∈ pv_TB := pv_mem (i := 769) (by decide +kernel) (by decide +kernel)
theorem w_771 : Cond.lays "java/lang/IndexOutOfBoundsException" "java/lang/Throwable" "stackTrace" "[Ljava/lang/StackTraceElement;" ∈ pv_TB := pv_mem (i := 771) (by decide +kernel) (by decide +kernel)
theorem w_773 : Cond.lays "java/lang/IndexOutOfBoundsException" "java/lang/Throwable" "suppressedExceptions" "Ljava/util/List;" ∈ pv_TB := pv_mem (i := 773) (by decide +kernel) (by decide +kernel)
theorem w_775 : Cond.lays "java/lang/IndexOutOfBoundsException" "java/lang/Throwable" "detailMessage" "Ljava/lang/String;" ∈ pv_TB := pv_mem (i := 775) (by decide +kernel) (by decide +kernel)
theorem w_779 : Cond.fieldLink "java/lang/Throwable" 198 "java/lang/Throwable" "backtrace" "Ljava/lang/Object;" ∈ pv_TB := pv_mem (i := 779) (by decide +kernel) (by decide +kernel)
theorem w_778 : Cond.lays "java/lang/Throwable" "java/lang/Throwable" "backtrace" "Ljava/lang/Object;" ∈ pv_TB := pv_mem (i := 778) (by decide +kernel) (by decide +kernel)
theorem w_777 : Cond.lays "java/lang/IndexOutOfBoundsException" "java/lang/Throwable" "backtrace" "Ljava/lang/Object;" ∈ pv_TB := pv_mem (i := 777) (by decide +kernel) (by decide +kernel)
theorem w_837 : Cond.instanceMethod ⟨"java/lang/IllegalArgumentException", "<init>", "(Ljava/lang/String;)V"⟩ ∈ pv_TB := pv_mem (i := 837) (by decide +kernel) (by decide +kernel)
theorem w_838 : Cond.code ⟨"java/lang/IllegalArgumentException", "<init>", "(Ljava/lang/String;)V"⟩ prog_11_method_2_code 2 (Option.none : Option Jvm.ClassFile.FieldType) ∈ pv_TB := pv_mem (i := 838) (by decide +kernel) (by decide +kernel)
theorem w_839 : Cond.methodLink "java/lang/IllegalArgumentException" 7 ⟨"java/lang/RuntimeException", "<init>", "(Ljava/lang/String;)V"⟩ ∈ pv_TB := pv_mem (i := 839) (by decide +kernel) (by decide +kernel)
theorem w_836 : Cond.methodLink "PatchVoices" 101 ⟨"java/lang/IllegalArgumentException", "<init>", "(Ljava/lang/String;)V"⟩ ∈ pv_TB := pv_mem (i := 836) (by decide +kernel) (by decide +kernel)
theorem w_829 : Cond.selects "java/lang/IllegalArgumentException" ⟨"java/lang/Throwable", "fillInStackTrace", "(I)Ljava/lang/Throwable;"⟩ ⟨"java/lang/Throwable", "fillInStackTrace", "(I)Ljava/lang/Throwable;"⟩ ∈ pv_TB := pv_mem (i := 829) (by decide +kernel) (by decide +kernel)
theorem w_791 : Cond.selects "java/lang/IllegalArgumentException" ⟨"java/lang/Throwable", "fillInStackTrace", "()Ljava/lang/Throwable;"⟩ ⟨"java/lang/Throwable", "fillInStackTrace", "()Ljava/lang/Throwable;"⟩ ∈ pv_TB := pv_mem (i := 791) (by decide +kernel) (by decide +kernel)
theorem w_830 : Cond.lays "java/lang/IllegalArgumentException" "java/lang/Throwable" "cause" "Ljava/lang/Throwable;" ∈ pv_TB := pv_mem (i := 830) (by decide +kernel) (by decide +kernel)
theorem w_831 : Cond.lays "java/lang/IllegalArgumentException" "java/lang/Throwable" "stackTrace" "[Ljava/lang/StackTraceElement;" ∈ pv_TB := pv_mem (i := 831) (by decide +kernel) (by decide +kernel)
theorem w_832 : Cond.lays "java/lang/IllegalArgumentException" "java/lang/Throwable" "suppressedExceptions" "Ljava/util/List;" ∈ pv_TB := pv_mem (i := 832) (by decide +kernel) (by decide +kernel)
theorem w_833 : Cond.lays "java/lang/IllegalArgumentException" "java/lang/Throwable" "detailMessage" "Ljava/lang/String;" ∈ pv_TB := pv_mem (i := 833) (by decide +kernel) (by decide +kernel)
theorem w_834 : Cond.lays "java/lang/IllegalArgumentException" "java/lang/Throwable" "backtrace" "Ljava/lang/Object;" ∈ pv_TB := pv_mem (i := 834) (by decide +kernel) (by decide +kernel)
theorem w_915 : Cond.instanceMethod ⟨"java/lang/IllegalStateException", "<init>", "(Ljava/lang/String;)V"⟩ ∈ pv_TB := pv_mem (i := 915) (by decide +kernel) (by decide +kernel)
theorem w_916 : Cond.code ⟨"java/lang/IllegalStateException", "<init>", "(Ljava/lang/String;)V"⟩ prog_12_method_2_code 2 (Option.none : Option Jvm.ClassFile.FieldType) ∈ pv_TB := pv_mem (i := 916) (by decide +kernel) (by decide +kernel)
theorem w_917 : Cond.methodLink "java/lang/IllegalStateException" 7 ⟨"java/lang/RuntimeException", "<init>", "(Ljava/lang/String;)V"⟩ ∈ pv_TB := pv_mem (i := 917) (by decide +kernel) (by decide +kernel)
theorem w_914 : Cond.methodLink "PatchVoices" 155 ⟨"java/lang/IllegalStateException", "<init>", "(Ljava/lang/String;)V"⟩ ∈ pv_TB := pv_mem (i := 914) (by decide +kernel) (by decide +kernel)
theorem w_907 : Cond.selects "java/lang/IllegalStateException" ⟨"java/lang/Throwable", "fillInStackTrace", "(I)Ljava/lang/Throwable;"⟩ ⟨"java/lang/Throwable", "fillInStackTrace", "(I)Ljava/lang/Throwable;"⟩ ∈ pv_TB := pv_mem (i := 907) (by decide +kernel) (by decide +kernel)
theorem w_792 : Cond.selects "java/lang/IllegalStateException" ⟨"java/lang/Throwable", "fillInStackTrace", "()Ljava/lang/Throwable;"⟩ ⟨"java/lang/Throwable", "fillInStackTrace", "()Ljava/lang/Throwable;"⟩ ∈ pv_TB := pv_mem (i := 792) (by decide +kernel) (by decide +kernel)
theorem w_908 : Cond.lays "java/lang/IllegalStateException" "java/lang/Throwable" "cause" "Ljava/lang/Throwable;" ∈ pv_TB := pv_mem (i := 908) (by decide +kernel) (by decide +kernel)
theorem w_909 : Cond.lays "java/lang/IllegalStateException" "java/lang/Throwable" "stackTrace" "[Ljava/lang/StackTraceElement;" ∈ pv_TB := pv_mem (i := 909) (by decide +kernel) (by decide +kernel)
theorem w_910 : Cond.lays "java/lang/IllegalStateException" "java/lang/Throwable" "suppressedExceptions" "Ljava/util/List;" ∈ pv_TB := pv_mem (i := 910) (by decide +kernel) (by decide +kernel)
theorem w_911 : Cond.lays "java/lang/IllegalStateException" "java/lang/Throwable" "detailMessage" "Ljava/lang/String;" ∈ pv_TB := pv_mem (i := 911) (by decide +kernel) (by decide +kernel)
theorem w_912 : Cond.lays "java/lang/IllegalStateException" "java/lang/Throwable" "backtrace" "Ljava/lang/Object;" ∈ pv_TB := pv_mem (i := 912) (by decide +kernel) (by decide +kernel)
def pv_XW : List Cond := [Cond.castable "java/lang/IndexOutOfBoundsException" "java/lang/IndexOutOfBoundsException", Cond.castable "java/lang/IllegalArgumentException" "java/lang/IllegalArgumentException", Cond.castable "java/lang/IllegalStateException" "java/lang/IllegalStateException", Cond.declares ⟨"java/lang/RuntimeException", "<init>", "(Ljava/lang/String;)V"⟩, Cond.declares ⟨"java/lang/Exception", "<init>", "(Ljava/lang/String;)V"⟩, Cond.declares ⟨"java/lang/Throwable", "<init>", "(Ljava/lang/String;)V"⟩]
def pv_MSG : List (Nat × String) := [(92, "there is no such step"), (99, "what is not 0 .. 10"), (109, "the voices are not 1 .. 4"), (111, "the strength is not 1 .. 127"), (146, "there is no such voice"), (153, "its gate is not on"), (156, "there is no such knob"), (158, "the samples are not 0 .. 64"), (164, "there is no program"), (189, "there is no such sample"), (200, "there is no such module"), (211, "the module has no value there")]
/-- what a throw needs of the state: two statics of Throwable, words that are not tables' alone, the messages -/
def pv_ZT (t : Nat → Nat) (A : Nat → Prop) (U : State) : Prop := pv_ST "java/lang/Throwable" "UNASSIGNED_STACK" "[Ljava/lang/StackTraceElement;" A U ∧ pv_ST "java/lang/Throwable" "SUPPRESSED_SENTINEL" "Ljava/util/List;" A U ∧ (∀ w ∈ pv_XW, va_Nw w U) ∧ ∀ q ∈ pv_MSG, vk_R "PatchVoices" q.1 q.2 (t q.1) U
theorem pv_mvT {t : Nat → Nat} {A : Nat → Prop} : pv_mv A (pv_ZT t A) := by
  intro s U H locs hZ hS hU hW
  obtain ⟨h1, h2, h3, h4⟩ := hZ
  have hk : ∀ a : Nat, a < s.heap.size → ¬ A a → U.heap[a]? = s.heap[a]? := by rw [hU]; exact hS.2.1
  refine ⟨h1.move hW.alike hk, h2.move hW.alike hk, fun w hw => ?_, fun q hq => vk_R.warm hW (h4 q hq)⟩
  have h := h3 w hw
  simp only [pv_XW, List.mem_cons, List.not_mem_nil, or_false] at hw
  rcases hw with rfl | rfl | rfl | rfl | rfl | rfl
  · exact va_Nw.warmC hW h
  · exact va_Nw.warmC hW h
  · exact va_Nw.warmC hW h
  · exact va_Nw.warmD hW h
  · exact va_Nw.warmD hW h
  · exact va_Nw.warmD hW h
set_option maxRecDepth 100000 in
set_option maxHeartbeats 4000000 in
theorem xa_IOOBE {args : Array Value} {s : State} {t : Nat → Nat} {A : Nat → Prop} (hts : ∀ w ∈ pv_TB, w.before args s = true) (hT : pv_ZT t A s) : ∀ w ∈ Bundle.ownAtoms "PatchVoices" 94 "java/lang/IndexOutOfBoundsException" ["java/lang/RuntimeException", "java/lang/Exception"], w.before args s = true := by
  intro w hw
  have hw : w ∈ ([Cond.initialized "java/lang/Throwable", Cond.superclass "java/lang/Throwable" "java/lang/Object", Cond.instanceMethod ⟨"java/lang/Throwable", "fillInStackTrace", "()Ljava/lang/Throwable;"⟩, Cond.codeSync ⟨"java/lang/Throwable", "fillInStackTrace", "()Ljava/lang/Throwable;"⟩ prog_21_method_18_code 1 (Option.some (.object "java/lang/Throwable")), Cond.instanceMethod ⟨"java/lang/Throwable", "fillInStackTrace", "(I)Ljava/lang/Throwable;"⟩, Cond.native ⟨"java/lang/Throwable", "fillInStackTrace", "(I)Ljava/lang/Throwable;"⟩, Cond.instanceMethod ⟨"java/lang/Throwable", "<init>", "()V"⟩, Cond.code ⟨"java/lang/Throwable", "<init>", "()V"⟩ prog_21_method_1_code 1 (Option.none : Option Jvm.ClassFile.FieldType), Cond.instanceMethod ⟨"java/lang/Object", "<init>", "()V"⟩, Cond.code ⟨"java/lang/Object", "<init>", "()V"⟩ object_method_1_code 1 (Option.none : Option Jvm.ClassFile.FieldType), Cond.methodLink "java/lang/Throwable" 1 ⟨"java/lang/Object", "<init>", "()V"⟩, Cond.methodLink "java/lang/Throwable" 27 ⟨"java/lang/Throwable", "fillInStackTrace", "()Ljava/lang/Throwable;"⟩, Cond.methodLink "java/lang/Throwable" 202 ⟨"java/lang/Throwable", "fillInStackTrace", "(I)Ljava/lang/Throwable;"⟩, Cond.fieldLink "java/lang/Throwable" 7 "java/lang/Throwable" "cause" "Ljava/lang/Throwable;", Cond.lays "java/lang/Throwable" "java/lang/Throwable" "cause" "Ljava/lang/Throwable;", Cond.fieldLink "java/lang/Throwable" 17 "java/lang/Throwable" "stackTrace" "[Ljava/lang/StackTraceElement;", Cond.lays "java/lang/Throwable" "java/lang/Throwable" "stackTrace" "[Ljava/lang/StackTraceElement;", Cond.fieldLink "java/lang/Throwable" 24 "java/lang/Throwable" "suppressedExceptions" "Ljava/util/List;", Cond.lays "java/lang/Throwable" "java/lang/Throwable" "suppressedExceptions" "Ljava/util/List;", Cond.fieldLink "java/lang/Throwable" 13 "java/lang/Throwable" "UNASSIGNED_STACK" "[Ljava/lang/StackTraceElement;", Cond.laysStatic "java/lang/Throwable" "UNASSIGNED_STACK" "[Ljava/lang/StackTraceElement;", Cond.fieldLink "java/lang/Throwable" 20 "java/lang/Throwable" "SUPPRESSED_SENTINEL" "Ljava/util/List;", Cond.laysStatic "java/lang/Throwable" "SUPPRESSED_SENTINEL" "Ljava/util/List;", Cond.lays "java/lang/Throwable" "java/lang/Throwable" "detailMessage" "Ljava/lang/String;", Cond.instanceMethod ⟨"java/lang/Throwable", "<init>", "(Ljava/lang/String;)V"⟩, Cond.code ⟨"java/lang/Throwable", "<init>", "(Ljava/lang/String;)V"⟩ prog_21_method_2_code 2 (Option.none : Option Jvm.ClassFile.FieldType), Cond.fieldLink "java/lang/Throwable" 31 "java/lang/Throwable" "detailMessage" "Ljava/lang/String;", Cond.lays "java/lang/Throwable" "java/lang/Throwable" "detailMessage" "Ljava/lang/String;", Cond.instanceMethod ⟨"java/lang/IndexOutOfBoundsException", "<init>", "(Ljava/lang/String;)V"⟩, Cond.code ⟨"java/lang/IndexOutOfBoundsException", "<init>", "(Ljava/lang/String;)V"⟩ prog_13_method_2_code 2 (Option.none : Option Jvm.ClassFile.FieldType), Cond.methodLink "java/lang/IndexOutOfBoundsException" 7 ⟨"java/lang/RuntimeException", "<init>", "(Ljava/lang/String;)V"⟩, Cond.instanceMethod ⟨"java/lang/RuntimeException", "<init>", "(Ljava/lang/String;)V"⟩, Cond.declares ⟨"java/lang/RuntimeException", "<init>", "(Ljava/lang/String;)V"⟩, Cond.instanceMethod ⟨"java/lang/RuntimeException", "<init>", "(Ljava/lang/String;)V"⟩, Cond.code ⟨"java/lang/RuntimeException", "<init>", "(Ljava/lang/String;)V"⟩ prog_16_method_2_code 2 (Option.none : Option Jvm.ClassFile.FieldType), Cond.methodLink "java/lang/RuntimeException" 7 ⟨"java/lang/Exception", "<init>", "(Ljava/lang/String;)V"⟩, Cond.instanceMethod ⟨"java/lang/Exception", "<init>", "(Ljava/lang/String;)V"⟩, Cond.declares ⟨"java/lang/Exception", "<init>", "(Ljava/lang/String;)V"⟩, Cond.instanceMethod ⟨"java/lang/Exception", "<init>", "(Ljava/lang/String;)V"⟩, Cond.code ⟨"java/lang/Exception", "<init>", "(Ljava/lang/String;)V"⟩ prog_10_method_2_code 2 (Option.none : Option Jvm.ClassFile.FieldType), Cond.methodLink "java/lang/Exception" 7 ⟨"java/lang/Throwable", "<init>", "(Ljava/lang/String;)V"⟩, Cond.instanceMethod ⟨"java/lang/Throwable", "<init>", "(Ljava/lang/String;)V"⟩, Cond.declares ⟨"java/lang/Throwable", "<init>", "(Ljava/lang/String;)V"⟩, Cond.methodLink "PatchVoices" 94 ⟨"java/lang/IndexOutOfBoundsException", "<init>", "(Ljava/lang/String;)V"⟩, Cond.instantiable "java/lang/IndexOutOfBoundsException" 6, Cond.castable "java/lang/IndexOutOfBoundsException" "java/lang/IndexOutOfBoundsException", Cond.selects "java/lang/IndexOutOfBoundsException" ⟨"java/lang/Throwable", "fillInStackTrace", "(I)Ljava/lang/Throwable;"⟩ ⟨"java/lang/Throwable", "fillInStackTrace", "(I)Ljava/lang/Throwable;"⟩, Cond.selects "java/lang/IndexOutOfBoundsException" ⟨"java/lang/Throwable", "fillInStackTrace", "()Ljava/lang/Throwable;"⟩ ⟨"java/lang/Throwable", "fillInStackTrace", "()Ljava/lang/Throwable;"⟩, Cond.lays "java/lang/IndexOutOfBoundsException" "java/lang/Throwable" "cause" "Ljava/lang/Throwable;", Cond.lays "java/lang/IndexOutOfBoundsException" "java/lang/Throwable" "stackTrace" "[Ljava/lang/StackTraceElement;", Cond.lays "java/lang/IndexOutOfBoundsException" "java/lang/Throwable" "suppressedExceptions" "Ljava/util/List;", Cond.lays "java/lang/IndexOutOfBoundsException" "java/lang/Throwable" "detailMessage" "Ljava/lang/String;", Cond.isRef (.static "java/lang/Throwable" "UNASSIGNED_STACK" "[Ljava/lang/StackTraceElement;"), Cond.isRef (.static "java/lang/Throwable" "SUPPRESSED_SENTINEL" "Ljava/util/List;"), Cond.fieldLink "java/lang/Throwable" 198 "java/lang/Throwable" "backtrace" "Ljava/lang/Object;", Cond.lays "java/lang/Throwable" "java/lang/Throwable" "backtrace" "Ljava/lang/Object;", Cond.lays "java/lang/IndexOutOfBoundsException" "java/lang/Throwable" "backtrace" "Ljava/lang/Object;"] : List Cond) := hw
  simp only [List.mem_cons, List.not_mem_nil, or_false] at hw
  rcases hw with rfl | rfl | rfl | rfl | rfl | rfl | rfl | rfl | rfl | rfl | rfl | rfl | rfl | rfl | rfl | rfl | rfl | rfl | rfl | rfl | rfl | rfl | rfl | rfl | rfl | rfl | rfl | rfl | rfl | rfl | rfl | rfl | rfl | rfl | rfl | rfl | rfl | rfl | rfl | rfl | rfl | rfl | rfl | rfl | rfl | rfl | rfl | rfl | rfl | rfl | rfl | rfl | rfl | rfl | rfl | rfl | rfl
  · exact hts _ w_125
  · exact hts _ w_780
  · exact hts _ w_789
  · exact hts _ w_794
  · exact hts _ w_797
  · exact hts _ w_799
  · exact hts _ w_781
  · exact hts _ w_782
  · exact hts _ w_138
  · exact hts _ w_139
  · exact hts _ w_783
  · exact hts _ w_788
  · exact hts _ w_795
  · exact hts _ w_815
  · exact hts _ w_770
  · exact hts _ w_816
  · exact hts _ w_772
  · exact hts _ w_817
  · exact hts _ w_774
  · exact hts _ w_784
  · exact hT.1.lays
  · exact hts _ w_786
  · exact hT.2.1.lays
  · exact hts _ w_776
  · exact hts _ w_811
  · exact hts _ w_812
  · exact hts _ w_814
  · exact hts _ w_776
  · exact hts _ w_802
  · exact hts _ w_803
  · exact hts _ w_804
  · exact hts _ w_805
  · exact va_Nw.use rfl (hT.2.2.1 _ (List.mem_of_getElem? (i := 3) rfl))
  · exact hts _ w_805
  · exact hts _ w_806
  · exact hts _ w_807
  · exact hts _ w_808
  · exact va_Nw.use rfl (hT.2.2.1 _ (List.mem_of_getElem? (i := 4) rfl))
  · exact hts _ w_808
  · exact hts _ w_809
  · exact hts _ w_810
  · exact hts _ w_811
  · exact va_Nw.use rfl (hT.2.2.1 _ (List.mem_of_getElem? (i := 5) rfl))
  · exact hts _ w_801
  · exact hts _ w_759
  · exact va_Nw.use rfl (hT.2.2.1 _ (List.mem_of_getElem? (i := 0) rfl))
  · exact hts _ w_767
  · exact hts _ w_768
  · exact hts _ w_769
  · exact hts _ w_771
  · exact hts _ w_773
  · exact hts _ w_775
  · exact hT.1.isRef
  · exact hT.2.1.isRef
  · exact hts _ w_779
  · exact hts _ w_778
  · exact hts _ w_777
set_option maxRecDepth 100000 in
set_option maxHeartbeats 4000000 in
theorem xa_IAE {args : Array Value} {s : State} {t : Nat → Nat} {A : Nat → Prop} (hts : ∀ w ∈ pv_TB, w.before args s = true) (hT : pv_ZT t A s) : ∀ w ∈ Bundle.ownAtoms "PatchVoices" 101 "java/lang/IllegalArgumentException" ["java/lang/RuntimeException", "java/lang/Exception"], w.before args s = true := by
  intro w hw
  have hw : w ∈ ([Cond.initialized "java/lang/Throwable", Cond.superclass "java/lang/Throwable" "java/lang/Object", Cond.instanceMethod ⟨"java/lang/Throwable", "fillInStackTrace", "()Ljava/lang/Throwable;"⟩, Cond.codeSync ⟨"java/lang/Throwable", "fillInStackTrace", "()Ljava/lang/Throwable;"⟩ prog_21_method_18_code 1 (Option.some (.object "java/lang/Throwable")), Cond.instanceMethod ⟨"java/lang/Throwable", "fillInStackTrace", "(I)Ljava/lang/Throwable;"⟩, Cond.native ⟨"java/lang/Throwable", "fillInStackTrace", "(I)Ljava/lang/Throwable;"⟩, Cond.instanceMethod ⟨"java/lang/Throwable", "<init>", "()V"⟩, Cond.code ⟨"java/lang/Throwable", "<init>", "()V"⟩ prog_21_method_1_code 1 (Option.none : Option Jvm.ClassFile.FieldType), Cond.instanceMethod ⟨"java/lang/Object", "<init>", "()V"⟩, Cond.code ⟨"java/lang/Object", "<init>", "()V"⟩ object_method_1_code 1 (Option.none : Option Jvm.ClassFile.FieldType), Cond.methodLink "java/lang/Throwable" 1 ⟨"java/lang/Object", "<init>", "()V"⟩, Cond.methodLink "java/lang/Throwable" 27 ⟨"java/lang/Throwable", "fillInStackTrace", "()Ljava/lang/Throwable;"⟩, Cond.methodLink "java/lang/Throwable" 202 ⟨"java/lang/Throwable", "fillInStackTrace", "(I)Ljava/lang/Throwable;"⟩, Cond.fieldLink "java/lang/Throwable" 7 "java/lang/Throwable" "cause" "Ljava/lang/Throwable;", Cond.lays "java/lang/Throwable" "java/lang/Throwable" "cause" "Ljava/lang/Throwable;", Cond.fieldLink "java/lang/Throwable" 17 "java/lang/Throwable" "stackTrace" "[Ljava/lang/StackTraceElement;", Cond.lays "java/lang/Throwable" "java/lang/Throwable" "stackTrace" "[Ljava/lang/StackTraceElement;", Cond.fieldLink "java/lang/Throwable" 24 "java/lang/Throwable" "suppressedExceptions" "Ljava/util/List;", Cond.lays "java/lang/Throwable" "java/lang/Throwable" "suppressedExceptions" "Ljava/util/List;", Cond.fieldLink "java/lang/Throwable" 13 "java/lang/Throwable" "UNASSIGNED_STACK" "[Ljava/lang/StackTraceElement;", Cond.laysStatic "java/lang/Throwable" "UNASSIGNED_STACK" "[Ljava/lang/StackTraceElement;", Cond.fieldLink "java/lang/Throwable" 20 "java/lang/Throwable" "SUPPRESSED_SENTINEL" "Ljava/util/List;", Cond.laysStatic "java/lang/Throwable" "SUPPRESSED_SENTINEL" "Ljava/util/List;", Cond.lays "java/lang/Throwable" "java/lang/Throwable" "detailMessage" "Ljava/lang/String;", Cond.instanceMethod ⟨"java/lang/Throwable", "<init>", "(Ljava/lang/String;)V"⟩, Cond.code ⟨"java/lang/Throwable", "<init>", "(Ljava/lang/String;)V"⟩ prog_21_method_2_code 2 (Option.none : Option Jvm.ClassFile.FieldType), Cond.fieldLink "java/lang/Throwable" 31 "java/lang/Throwable" "detailMessage" "Ljava/lang/String;", Cond.lays "java/lang/Throwable" "java/lang/Throwable" "detailMessage" "Ljava/lang/String;", Cond.instanceMethod ⟨"java/lang/IllegalArgumentException", "<init>", "(Ljava/lang/String;)V"⟩, Cond.code ⟨"java/lang/IllegalArgumentException", "<init>", "(Ljava/lang/String;)V"⟩ prog_11_method_2_code 2 (Option.none : Option Jvm.ClassFile.FieldType), Cond.methodLink "java/lang/IllegalArgumentException" 7 ⟨"java/lang/RuntimeException", "<init>", "(Ljava/lang/String;)V"⟩, Cond.instanceMethod ⟨"java/lang/RuntimeException", "<init>", "(Ljava/lang/String;)V"⟩, Cond.declares ⟨"java/lang/RuntimeException", "<init>", "(Ljava/lang/String;)V"⟩, Cond.instanceMethod ⟨"java/lang/RuntimeException", "<init>", "(Ljava/lang/String;)V"⟩, Cond.code ⟨"java/lang/RuntimeException", "<init>", "(Ljava/lang/String;)V"⟩ prog_16_method_2_code 2 (Option.none : Option Jvm.ClassFile.FieldType), Cond.methodLink "java/lang/RuntimeException" 7 ⟨"java/lang/Exception", "<init>", "(Ljava/lang/String;)V"⟩, Cond.instanceMethod ⟨"java/lang/Exception", "<init>", "(Ljava/lang/String;)V"⟩, Cond.declares ⟨"java/lang/Exception", "<init>", "(Ljava/lang/String;)V"⟩, Cond.instanceMethod ⟨"java/lang/Exception", "<init>", "(Ljava/lang/String;)V"⟩, Cond.code ⟨"java/lang/Exception", "<init>", "(Ljava/lang/String;)V"⟩ prog_10_method_2_code 2 (Option.none : Option Jvm.ClassFile.FieldType), Cond.methodLink "java/lang/Exception" 7 ⟨"java/lang/Throwable", "<init>", "(Ljava/lang/String;)V"⟩, Cond.instanceMethod ⟨"java/lang/Throwable", "<init>", "(Ljava/lang/String;)V"⟩, Cond.declares ⟨"java/lang/Throwable", "<init>", "(Ljava/lang/String;)V"⟩, Cond.methodLink "PatchVoices" 101 ⟨"java/lang/IllegalArgumentException", "<init>", "(Ljava/lang/String;)V"⟩, Cond.instantiable "java/lang/IllegalArgumentException" 6, Cond.castable "java/lang/IllegalArgumentException" "java/lang/IllegalArgumentException", Cond.selects "java/lang/IllegalArgumentException" ⟨"java/lang/Throwable", "fillInStackTrace", "(I)Ljava/lang/Throwable;"⟩ ⟨"java/lang/Throwable", "fillInStackTrace", "(I)Ljava/lang/Throwable;"⟩, Cond.selects "java/lang/IllegalArgumentException" ⟨"java/lang/Throwable", "fillInStackTrace", "()Ljava/lang/Throwable;"⟩ ⟨"java/lang/Throwable", "fillInStackTrace", "()Ljava/lang/Throwable;"⟩, Cond.lays "java/lang/IllegalArgumentException" "java/lang/Throwable" "cause" "Ljava/lang/Throwable;", Cond.lays "java/lang/IllegalArgumentException" "java/lang/Throwable" "stackTrace" "[Ljava/lang/StackTraceElement;", Cond.lays "java/lang/IllegalArgumentException" "java/lang/Throwable" "suppressedExceptions" "Ljava/util/List;", Cond.lays "java/lang/IllegalArgumentException" "java/lang/Throwable" "detailMessage" "Ljava/lang/String;", Cond.isRef (.static "java/lang/Throwable" "UNASSIGNED_STACK" "[Ljava/lang/StackTraceElement;"), Cond.isRef (.static "java/lang/Throwable" "SUPPRESSED_SENTINEL" "Ljava/util/List;"), Cond.fieldLink "java/lang/Throwable" 198 "java/lang/Throwable" "backtrace" "Ljava/lang/Object;", Cond.lays "java/lang/Throwable" "java/lang/Throwable" "backtrace" "Ljava/lang/Object;", Cond.lays "java/lang/IllegalArgumentException" "java/lang/Throwable" "backtrace" "Ljava/lang/Object;"] : List Cond) := hw
  simp only [List.mem_cons, List.not_mem_nil, or_false] at hw
  rcases hw with rfl | rfl | rfl | rfl | rfl | rfl | rfl | rfl | rfl | rfl | rfl | rfl | rfl | rfl | rfl | rfl | rfl | rfl | rfl | rfl | rfl | rfl | rfl | rfl | rfl | rfl | rfl | rfl | rfl | rfl | rfl | rfl | rfl | rfl | rfl | rfl | rfl | rfl | rfl | rfl | rfl | rfl | rfl | rfl | rfl | rfl | rfl | rfl | rfl | rfl | rfl | rfl | rfl | rfl | rfl | rfl | rfl
  · exact hts _ w_125
  · exact hts _ w_780
  · exact hts _ w_789
  · exact hts _ w_794
  · exact hts _ w_797
  · exact hts _ w_799
  · exact hts _ w_781
  · exact hts _ w_782
  · exact hts _ w_138
  · exact hts _ w_139
  · exact hts _ w_783
  · exact hts _ w_788
  · exact hts _ w_795
  · exact hts _ w_815
  · exact hts _ w_770
  · exact hts _ w_816
  · exact hts _ w_772
  · exact hts _ w_817
  · exact hts _ w_774
  · exact hts _ w_784
  · exact hT.1.lays
  · exact hts _ w_786
  · exact hT.2.1.lays
  · exact hts _ w_776
  · exact hts _ w_811
  · exact hts _ w_812
  · exact hts _ w_814
  · exact hts _ w_776
  · exact hts _ w_837
  · exact hts _ w_838
  · exact hts _ w_839
  · exact hts _ w_805
  · exact va_Nw.use rfl (hT.2.2.1 _ (List.mem_of_getElem? (i := 3) rfl))
  · exact hts _ w_805
  · exact hts _ w_806
  · exact hts _ w_807
  · exact hts _ w_808
  · exact va_Nw.use rfl (hT.2.2.1 _ (List.mem_of_getElem? (i := 4) rfl))
  · exact hts _ w_808
  · exact hts _ w_809
  · exact hts _ w_810
  · exact hts _ w_811
  · exact va_Nw.use rfl (hT.2.2.1 _ (List.mem_of_getElem? (i := 5) rfl))
  · exact hts _ w_836
  · exact hts _ w_827
  · exact va_Nw.use rfl (hT.2.2.1 _ (List.mem_of_getElem? (i := 1) rfl))
  · exact hts _ w_829
  · exact hts _ w_791
  · exact hts _ w_830
  · exact hts _ w_831
  · exact hts _ w_832
  · exact hts _ w_833
  · exact hT.1.isRef
  · exact hT.2.1.isRef
  · exact hts _ w_779
  · exact hts _ w_778
  · exact hts _ w_834
set_option maxRecDepth 100000 in
set_option maxHeartbeats 4000000 in
theorem xa_ISE {args : Array Value} {s : State} {t : Nat → Nat} {A : Nat → Prop} (hts : ∀ w ∈ pv_TB, w.before args s = true) (hT : pv_ZT t A s) : ∀ w ∈ Bundle.ownAtoms "PatchVoices" 155 "java/lang/IllegalStateException" ["java/lang/RuntimeException", "java/lang/Exception"], w.before args s = true := by
  intro w hw
  have hw : w ∈ ([Cond.initialized "java/lang/Throwable", Cond.superclass "java/lang/Throwable" "java/lang/Object", Cond.instanceMethod ⟨"java/lang/Throwable", "fillInStackTrace", "()Ljava/lang/Throwable;"⟩, Cond.codeSync ⟨"java/lang/Throwable", "fillInStackTrace", "()Ljava/lang/Throwable;"⟩ prog_21_method_18_code 1 (Option.some (.object "java/lang/Throwable")), Cond.instanceMethod ⟨"java/lang/Throwable", "fillInStackTrace", "(I)Ljava/lang/Throwable;"⟩, Cond.native ⟨"java/lang/Throwable", "fillInStackTrace", "(I)Ljava/lang/Throwable;"⟩, Cond.instanceMethod ⟨"java/lang/Throwable", "<init>", "()V"⟩, Cond.code ⟨"java/lang/Throwable", "<init>", "()V"⟩ prog_21_method_1_code 1 (Option.none : Option Jvm.ClassFile.FieldType), Cond.instanceMethod ⟨"java/lang/Object", "<init>", "()V"⟩, Cond.code ⟨"java/lang/Object", "<init>", "()V"⟩ object_method_1_code 1 (Option.none : Option Jvm.ClassFile.FieldType), Cond.methodLink "java/lang/Throwable" 1 ⟨"java/lang/Object", "<init>", "()V"⟩, Cond.methodLink "java/lang/Throwable" 27 ⟨"java/lang/Throwable", "fillInStackTrace", "()Ljava/lang/Throwable;"⟩, Cond.methodLink "java/lang/Throwable" 202 ⟨"java/lang/Throwable", "fillInStackTrace", "(I)Ljava/lang/Throwable;"⟩, Cond.fieldLink "java/lang/Throwable" 7 "java/lang/Throwable" "cause" "Ljava/lang/Throwable;", Cond.lays "java/lang/Throwable" "java/lang/Throwable" "cause" "Ljava/lang/Throwable;", Cond.fieldLink "java/lang/Throwable" 17 "java/lang/Throwable" "stackTrace" "[Ljava/lang/StackTraceElement;", Cond.lays "java/lang/Throwable" "java/lang/Throwable" "stackTrace" "[Ljava/lang/StackTraceElement;", Cond.fieldLink "java/lang/Throwable" 24 "java/lang/Throwable" "suppressedExceptions" "Ljava/util/List;", Cond.lays "java/lang/Throwable" "java/lang/Throwable" "suppressedExceptions" "Ljava/util/List;", Cond.fieldLink "java/lang/Throwable" 13 "java/lang/Throwable" "UNASSIGNED_STACK" "[Ljava/lang/StackTraceElement;", Cond.laysStatic "java/lang/Throwable" "UNASSIGNED_STACK" "[Ljava/lang/StackTraceElement;", Cond.fieldLink "java/lang/Throwable" 20 "java/lang/Throwable" "SUPPRESSED_SENTINEL" "Ljava/util/List;", Cond.laysStatic "java/lang/Throwable" "SUPPRESSED_SENTINEL" "Ljava/util/List;", Cond.lays "java/lang/Throwable" "java/lang/Throwable" "detailMessage" "Ljava/lang/String;", Cond.instanceMethod ⟨"java/lang/Throwable", "<init>", "(Ljava/lang/String;)V"⟩, Cond.code ⟨"java/lang/Throwable", "<init>", "(Ljava/lang/String;)V"⟩ prog_21_method_2_code 2 (Option.none : Option Jvm.ClassFile.FieldType), Cond.fieldLink "java/lang/Throwable" 31 "java/lang/Throwable" "detailMessage" "Ljava/lang/String;", Cond.lays "java/lang/Throwable" "java/lang/Throwable" "detailMessage" "Ljava/lang/String;", Cond.instanceMethod ⟨"java/lang/IllegalStateException", "<init>", "(Ljava/lang/String;)V"⟩, Cond.code ⟨"java/lang/IllegalStateException", "<init>", "(Ljava/lang/String;)V"⟩ prog_12_method_2_code 2 (Option.none : Option Jvm.ClassFile.FieldType), Cond.methodLink "java/lang/IllegalStateException" 7 ⟨"java/lang/RuntimeException", "<init>", "(Ljava/lang/String;)V"⟩, Cond.instanceMethod ⟨"java/lang/RuntimeException", "<init>", "(Ljava/lang/String;)V"⟩, Cond.declares ⟨"java/lang/RuntimeException", "<init>", "(Ljava/lang/String;)V"⟩, Cond.instanceMethod ⟨"java/lang/RuntimeException", "<init>", "(Ljava/lang/String;)V"⟩, Cond.code ⟨"java/lang/RuntimeException", "<init>", "(Ljava/lang/String;)V"⟩ prog_16_method_2_code 2 (Option.none : Option Jvm.ClassFile.FieldType), Cond.methodLink "java/lang/RuntimeException" 7 ⟨"java/lang/Exception", "<init>", "(Ljava/lang/String;)V"⟩, Cond.instanceMethod ⟨"java/lang/Exception", "<init>", "(Ljava/lang/String;)V"⟩, Cond.declares ⟨"java/lang/Exception", "<init>", "(Ljava/lang/String;)V"⟩, Cond.instanceMethod ⟨"java/lang/Exception", "<init>", "(Ljava/lang/String;)V"⟩, Cond.code ⟨"java/lang/Exception", "<init>", "(Ljava/lang/String;)V"⟩ prog_10_method_2_code 2 (Option.none : Option Jvm.ClassFile.FieldType), Cond.methodLink "java/lang/Exception" 7 ⟨"java/lang/Throwable", "<init>", "(Ljava/lang/String;)V"⟩, Cond.instanceMethod ⟨"java/lang/Throwable", "<init>", "(Ljava/lang/String;)V"⟩, Cond.declares ⟨"java/lang/Throwable", "<init>", "(Ljava/lang/String;)V"⟩, Cond.methodLink "PatchVoices" 155 ⟨"java/lang/IllegalStateException", "<init>", "(Ljava/lang/String;)V"⟩, Cond.instantiable "java/lang/IllegalStateException" 6, Cond.castable "java/lang/IllegalStateException" "java/lang/IllegalStateException", Cond.selects "java/lang/IllegalStateException" ⟨"java/lang/Throwable", "fillInStackTrace", "(I)Ljava/lang/Throwable;"⟩ ⟨"java/lang/Throwable", "fillInStackTrace", "(I)Ljava/lang/Throwable;"⟩, Cond.selects "java/lang/IllegalStateException" ⟨"java/lang/Throwable", "fillInStackTrace", "()Ljava/lang/Throwable;"⟩ ⟨"java/lang/Throwable", "fillInStackTrace", "()Ljava/lang/Throwable;"⟩, Cond.lays "java/lang/IllegalStateException" "java/lang/Throwable" "cause" "Ljava/lang/Throwable;", Cond.lays "java/lang/IllegalStateException" "java/lang/Throwable" "stackTrace" "[Ljava/lang/StackTraceElement;", Cond.lays "java/lang/IllegalStateException" "java/lang/Throwable" "suppressedExceptions" "Ljava/util/List;", Cond.lays "java/lang/IllegalStateException" "java/lang/Throwable" "detailMessage" "Ljava/lang/String;", Cond.isRef (.static "java/lang/Throwable" "UNASSIGNED_STACK" "[Ljava/lang/StackTraceElement;"), Cond.isRef (.static "java/lang/Throwable" "SUPPRESSED_SENTINEL" "Ljava/util/List;"), Cond.fieldLink "java/lang/Throwable" 198 "java/lang/Throwable" "backtrace" "Ljava/lang/Object;", Cond.lays "java/lang/Throwable" "java/lang/Throwable" "backtrace" "Ljava/lang/Object;", Cond.lays "java/lang/IllegalStateException" "java/lang/Throwable" "backtrace" "Ljava/lang/Object;"] : List Cond) := hw
  simp only [List.mem_cons, List.not_mem_nil, or_false] at hw
  rcases hw with rfl | rfl | rfl | rfl | rfl | rfl | rfl | rfl | rfl | rfl | rfl | rfl | rfl | rfl | rfl | rfl | rfl | rfl | rfl | rfl | rfl | rfl | rfl | rfl | rfl | rfl | rfl | rfl | rfl | rfl | rfl | rfl | rfl | rfl | rfl | rfl | rfl | rfl | rfl | rfl | rfl | rfl | rfl | rfl | rfl | rfl | rfl | rfl | rfl | rfl | rfl | rfl | rfl | rfl | rfl | rfl | rfl
  · exact hts _ w_125
  · exact hts _ w_780
  · exact hts _ w_789
  · exact hts _ w_794
  · exact hts _ w_797
  · exact hts _ w_799
  · exact hts _ w_781
  · exact hts _ w_782
  · exact hts _ w_138
  · exact hts _ w_139
  · exact hts _ w_783
  · exact hts _ w_788
  · exact hts _ w_795
  · exact hts _ w_815
  · exact hts _ w_770
  · exact hts _ w_816
  · exact hts _ w_772
  · exact hts _ w_817
  · exact hts _ w_774
  · exact hts _ w_784
  · exact hT.1.lays
  · exact hts _ w_786
  · exact hT.2.1.lays
  · exact hts _ w_776
  · exact hts _ w_811
  · exact hts _ w_812
  · exact hts _ w_814
  · exact hts _ w_776
  · exact hts _ w_915
  · exact hts _ w_916
  · exact hts _ w_917
  · exact hts _ w_805
  · exact va_Nw.use rfl (hT.2.2.1 _ (List.mem_of_getElem? (i := 3) rfl))
  · exact hts _ w_805
  · exact hts _ w_806
  · exact hts _ w_807
  · exact hts _ w_808
  · exact va_Nw.use rfl (hT.2.2.1 _ (List.mem_of_getElem? (i := 4) rfl))
  · exact hts _ w_808
  · exact hts _ w_809
  · exact hts _ w_810
  · exact hts _ w_811
  · exact va_Nw.use rfl (hT.2.2.1 _ (List.mem_of_getElem? (i := 5) rfl))
  · exact hts _ w_914
  · exact hts _ w_905
  · exact va_Nw.use rfl (hT.2.2.1 _ (List.mem_of_getElem? (i := 2) rfl))
  · exact hts _ w_907
  · exact hts _ w_792
  · exact hts _ w_908
  · exact hts _ w_909
  · exact hts _ w_910
  · exact hts _ w_911
  · exact hT.1.isRef
  · exact hT.2.1.isRef
  · exact hts _ w_779
  · exact hts _ w_778
  · exact hts _ w_912
