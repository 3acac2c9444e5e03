/-! THE WORDS: the tables', what the start says of Throwable's statics, which exceptions are no others, the law's own code -/
def am_exn : List String := ["java/lang/IndexOutOfBoundsException", "java/lang/IllegalStateException", "java/lang/IllegalArgumentException", "java/lang/UnsupportedOperationException"]
def am_nots : List Cond := am_exn.flatMap fun a => (am_exn.filter fun b => !(a == b)).map fun b => Cond.not (Cond.castable a b)
def am_xt : List Cond := [.isRef (.static "java/lang/Throwable" "UNASSIGNED_STACK" "[Ljava/lang/StackTraceElement;"), .isRef (.static "java/lang/Throwable" "SUPPRESSED_SENTINEL" "Ljava/util/List;"), .code x code maxLocals ret] ++ am_nots
def am_tbl : List Cond := lw_tbl ++ am_xt
