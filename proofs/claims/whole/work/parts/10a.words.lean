theorem q545 : ((.fieldLink "java/lang/String" 38 "java/lang/String" "COMPACT_STRINGS" "Z") : Cond) ∈ GT := gt_tables_1_3 65 (by decide +kernel) (by decide +kernel)
theorem q553 : ((.fieldLink "java/lang/String" 1053 "jdk/internal/util/Preconditions" "SIOOBE_FORMATTER" "Ljava/util/function/BiFunction;") : Cond) ∈ GT := gt_tables_1_3 73 (by decide +kernel) (by decide +kernel)
theorem q1923 : ((.fieldLink "java/lang/String" 15 "java/lang/String" "coder" "B") : Cond) ∈ GT := gt_tables_1_9 3 (by decide +kernel) (by decide +kernel)
theorem q1924 : ((.fieldLink "java/lang/String" 9 "java/lang/String" "value" "[B") : Cond) ∈ GT := gt_tables_1_9 4 (by decide +kernel) (by decide +kernel)
