/-! The words stand in the tables: by a program (wip/p1/genwords.py). -/
theorem sub_1 {w : Cond} (h : w ∈ tables_1_1) : w ∈ lw_tbl := List.mem_append_right _ (List.mem_append_left _ h)
theorem sub_2 {w : Cond} (h : w ∈ tables_1_2) : w ∈ lw_tbl := List.mem_append_right _ (List.mem_append_right _ (List.mem_append_left _ h))
theorem sub_3 {w : Cond} (h : w ∈ tables_1_3) : w ∈ lw_tbl := List.mem_append_right _ (List.mem_append_right _ (List.mem_append_right _ (List.mem_append_left _ h)))
theorem sub_4 {w : Cond} (h : w ∈ tables_1_4) : w ∈ lw_tbl := List.mem_append_right _ (List.mem_append_right _ (List.mem_append_right _ (List.mem_append_right _ (List.mem_append_left _ h))))
theorem sub_5 {w : Cond} (h : w ∈ tables_1_5) : w ∈ lw_tbl := List.mem_append_right _ (List.mem_append_right _ (List.mem_append_right _ (List.mem_append_right _ (List.mem_append_right _ (List.mem_append_left _ h)))))
theorem sub_6 {w : Cond} (h : w ∈ tables_1_6) : w ∈ lw_tbl := List.mem_append_right _ (List.mem_append_right _ (List.mem_append_right _ (List.mem_append_right _ (List.mem_append_right _ (List.mem_append_right _ (List.mem_append_left _ h))))))
theorem sub_7 {w : Cond} (h : w ∈ tables_1_7) : w ∈ lw_tbl := List.mem_append_right _ (List.mem_append_right _ (List.mem_append_right _ (List.mem_append_right _ (List.mem_append_right _ (List.mem_append_right _ (List.mem_append_right _ (List.mem_append_left _ h)))))))
theorem sub_8 {w : Cond} (h : w ∈ tables_1_8) : w ∈ lw_tbl := List.mem_append_right _ (List.mem_append_right _ (List.mem_append_right _ (List.mem_append_right _ (List.mem_append_right _ (List.mem_append_right _ (List.mem_append_right _ (List.mem_append_right _ (List.mem_append_left _ h))))))))
theorem sub_9 {w : Cond} (h : w ∈ tables_1_9) : w ∈ lw_tbl := List.mem_append_right _ (List.mem_append_right _ (List.mem_append_right _ (List.mem_append_right _ (List.mem_append_right _ (List.mem_append_right _ (List.mem_append_right _ (List.mem_append_right _ (List.mem_append_right _ (List.mem_append_left _ h)))))))))
theorem sub_10 {w : Cond} (h : w ∈ tables_1_10) : w ∈ lw_tbl := List.mem_append_right _ (List.mem_append_right _ (List.mem_append_right _ (List.mem_append_right _ (List.mem_append_right _ (List.mem_append_right _ (List.mem_append_right _ (List.mem_append_right _ (List.mem_append_right _ (List.mem_append_right _ (List.mem_append_left _ h))))))))))
theorem sub_11 {w : Cond} (h : w ∈ tables_1_11) : w ∈ lw_tbl := List.mem_append_right _ (List.mem_append_right _ (List.mem_append_right _ (List.mem_append_right _ (List.mem_append_right _ (List.mem_append_right _ (List.mem_append_right _ (List.mem_append_right _ (List.mem_append_right _ (List.mem_append_right _ (List.mem_append_right _ (List.mem_append_left _ h)))))))))))
theorem sub_12 {w : Cond} (h : w ∈ tables_1_12) : w ∈ lw_tbl := List.mem_append_right _ (List.mem_append_right _ (List.mem_append_right _ (List.mem_append_right _ (List.mem_append_right _ (List.mem_append_right _ (List.mem_append_right _ (List.mem_append_right _ (List.mem_append_right _ (List.mem_append_right _ (List.mem_append_right _ (List.mem_append_right _ (List.mem_append_left _ h))))))))))))
theorem sub_13 {w : Cond} (h : w ∈ tables_1_13) : w ∈ lw_tbl := List.mem_append_right _ (List.mem_append_right _ (List.mem_append_right _ (List.mem_append_right _ (List.mem_append_right _ (List.mem_append_right _ (List.mem_append_right _ (List.mem_append_right _ (List.mem_append_right _ (List.mem_append_right _ (List.mem_append_right _ (List.mem_append_right _ (List.mem_append_right _ (List.mem_append_left _ h)))))))))))))
theorem sub_14 {w : Cond} (h : w ∈ tables_1_14) : w ∈ lw_tbl := List.mem_append_right _ (List.mem_append_right _ (List.mem_append_right _ (List.mem_append_right _ (List.mem_append_right _ (List.mem_append_right _ (List.mem_append_right _ (List.mem_append_right _ (List.mem_append_right _ (List.mem_append_right _ (List.mem_append_right _ (List.mem_append_right _ (List.mem_append_right _ (List.mem_append_right _ (List.mem_append_left _ h))))))))))))))
theorem sub_15 {w : Cond} (h : w ∈ tables_1_15) : w ∈ lw_tbl := List.mem_append_right _ (List.mem_append_right _ (List.mem_append_right _ (List.mem_append_right _ (List.mem_append_right _ (List.mem_append_right _ (List.mem_append_right _ (List.mem_append_right _ (List.mem_append_right _ (List.mem_append_right _ (List.mem_append_right _ (List.mem_append_right _ (List.mem_append_right _ (List.mem_append_right _ (List.mem_append_right _ (List.mem_append_left _ h)))))))))))))))
theorem sub_16 {w : Cond} (h : w ∈ tables_1_16) : w ∈ lw_tbl := List.mem_append_right _ (List.mem_append_right _ (List.mem_append_right _ (List.mem_append_right _ (List.mem_append_right _ (List.mem_append_right _ (List.mem_append_right _ (List.mem_append_right _ (List.mem_append_right _ (List.mem_append_right _ (List.mem_append_right _ (List.mem_append_right _ (List.mem_append_right _ (List.mem_append_right _ (List.mem_append_right _ (List.mem_append_right _ (List.mem_append_left _ h))))))))))))))))
theorem sub_17 {w : Cond} (h : w ∈ tables_1_17) : w ∈ lw_tbl := List.mem_append_right _ (List.mem_append_right _ (List.mem_append_right _ (List.mem_append_right _ (List.mem_append_right _ (List.mem_append_right _ (List.mem_append_right _ (List.mem_append_right _ (List.mem_append_right _ (List.mem_append_right _ (List.mem_append_right _ (List.mem_append_right _ (List.mem_append_right _ (List.mem_append_right _ (List.mem_append_right _ (List.mem_append_right _ (List.mem_append_right _ (List.mem_append_left _ h)))))))))))))))))
theorem sub_18 {w : Cond} (h : w ∈ tables_1_18) : w ∈ lw_tbl := List.mem_append_right _ (List.mem_append_right _ (List.mem_append_right _ (List.mem_append_right _ (List.mem_append_right _ (List.mem_append_right _ (List.mem_append_right _ (List.mem_append_right _ (List.mem_append_right _ (List.mem_append_right _ (List.mem_append_right _ (List.mem_append_right _ (List.mem_append_right _ (List.mem_append_right _ (List.mem_append_right _ (List.mem_append_right _ (List.mem_append_right _ (List.mem_append_right _ (List.mem_append_left _ h))))))))))))))))))
theorem sub_19 {w : Cond} (h : w ∈ tables_1_19) : w ∈ lw_tbl := List.mem_append_right _ (List.mem_append_right _ (List.mem_append_right _ (List.mem_append_right _ (List.mem_append_right _ (List.mem_append_right _ (List.mem_append_right _ (List.mem_append_right _ (List.mem_append_right _ (List.mem_append_right _ (List.mem_append_right _ (List.mem_append_right _ (List.mem_append_right _ (List.mem_append_right _ (List.mem_append_right _ (List.mem_append_right _ (List.mem_append_right _ (List.mem_append_right _ (List.mem_append_right _ (List.mem_append_left _ h)))))))))))))))))))
theorem sub_20 {w : Cond} (h : w ∈ tables_1_20) : w ∈ lw_tbl := List.mem_append_right _ (List.mem_append_right _ (List.mem_append_right _ (List.mem_append_right _ (List.mem_append_right _ (List.mem_append_right _ (List.mem_append_right _ (List.mem_append_right _ (List.mem_append_right _ (List.mem_append_right _ (List.mem_append_right _ (List.mem_append_right _ (List.mem_append_right _ (List.mem_append_right _ (List.mem_append_right _ (List.mem_append_right _ (List.mem_append_right _ (List.mem_append_right _ (List.mem_append_right _ (List.mem_append_right _ (List.mem_append_left _ h))))))))))))))))))))
theorem sub_21 {w : Cond} (h : w ∈ tables_1_21) : w ∈ lw_tbl := List.mem_append_right _ (List.mem_append_right _ (List.mem_append_right _ (List.mem_append_right _ (List.mem_append_right _ (List.mem_append_right _ (List.mem_append_right _ (List.mem_append_right _ (List.mem_append_right _ (List.mem_append_right _ (List.mem_append_right _ (List.mem_append_right _ (List.mem_append_right _ (List.mem_append_right _ (List.mem_append_right _ (List.mem_append_right _ (List.mem_append_right _ (List.mem_append_right _ (List.mem_append_right _ (List.mem_append_right _ (List.mem_append_right _ (h)))))))))))))))))))))
theorem pv_1 {q : MethodName × Nat} (h : q ∈ lw_privs_1) : q ∈ lw_privs := List.mem_append_left _ h
theorem pv_2 {q : MethodName × Nat} (h : q ∈ lw_privs_2) : q ∈ lw_privs := List.mem_append_right _ (List.mem_append_left _ h)
theorem pv_3 {q : MethodName × Nat} (h : q ∈ lw_privs_3) : q ∈ lw_privs := List.mem_append_right _ (List.mem_append_right _ (List.mem_append_left _ h))
theorem pv_4 {q : MethodName × Nat} (h : q ∈ lw_privs_4) : q ∈ lw_privs := List.mem_append_right _ (List.mem_append_right _ (List.mem_append_right _ (List.mem_append_left _ h)))
theorem pv_5 {q : MethodName × Nat} (h : q ∈ lw_privs_5) : q ∈ lw_privs := List.mem_append_right _ (List.mem_append_right _ (List.mem_append_right _ (List.mem_append_right _ (List.mem_append_left _ h))))
theorem pv_6 {q : MethodName × Nat} (h : q ∈ lw_privs_6) : q ∈ lw_privs := List.mem_append_right _ (List.mem_append_right _ (List.mem_append_right _ (List.mem_append_right _ (List.mem_append_right _ (List.mem_append_left _ h)))))
theorem pv_7 {q : MethodName × Nat} (h : q ∈ lw_privs_7) : q ∈ lw_privs := List.mem_append_right _ (List.mem_append_right _ (List.mem_append_right _ (List.mem_append_right _ (List.mem_append_right _ (List.mem_append_right _ (List.mem_append_left _ h))))))
theorem pv_8 {q : MethodName × Nat} (h : q ∈ lw_privs_8) : q ∈ lw_privs := List.mem_append_right _ (List.mem_append_right _ (List.mem_append_right _ (List.mem_append_right _ (List.mem_append_right _ (List.mem_append_right _ (List.mem_append_right _ (List.mem_append_left _ h)))))))
theorem pv_9 {q : MethodName × Nat} (h : q ∈ lw_privs_9) : q ∈ lw_privs := List.mem_append_right _ (List.mem_append_right _ (List.mem_append_right _ (List.mem_append_right _ (List.mem_append_right _ (List.mem_append_right _ (List.mem_append_right _ (List.mem_append_right _ (List.mem_append_left _ h))))))))
theorem pv_10 {q : MethodName × Nat} (h : q ∈ lw_privs_10) : q ∈ lw_privs := List.mem_append_right _ (List.mem_append_right _ (List.mem_append_right _ (List.mem_append_right _ (List.mem_append_right _ (List.mem_append_right _ (List.mem_append_right _ (List.mem_append_right _ (List.mem_append_right _ (List.mem_append_left _ h)))))))))
theorem pv_11 {q : MethodName × Nat} (h : q ∈ lw_privs_11) : q ∈ lw_privs := List.mem_append_right _ (List.mem_append_right _ (List.mem_append_right _ (List.mem_append_right _ (List.mem_append_right _ (List.mem_append_right _ (List.mem_append_right _ (List.mem_append_right _ (List.mem_append_right _ (List.mem_append_right _ (List.mem_append_left _ h))))))))))
theorem pv_12 {q : MethodName × Nat} (h : q ∈ lw_privs_12) : q ∈ lw_privs := List.mem_append_right _ (List.mem_append_right _ (List.mem_append_right _ (List.mem_append_right _ (List.mem_append_right _ (List.mem_append_right _ (List.mem_append_right _ (List.mem_append_right _ (List.mem_append_right _ (List.mem_append_right _ (List.mem_append_right _ (List.mem_append_left _ h)))))))))))
theorem pv_13 {q : MethodName × Nat} (h : q ∈ lw_privs_13) : q ∈ lw_privs := List.mem_append_right _ (List.mem_append_right _ (List.mem_append_right _ (List.mem_append_right _ (List.mem_append_right _ (List.mem_append_right _ (List.mem_append_right _ (List.mem_append_right _ (List.mem_append_right _ (List.mem_append_right _ (List.mem_append_right _ (List.mem_append_right _ (List.mem_append_left _ h))))))))))))
theorem pv_14 {q : MethodName × Nat} (h : q ∈ lw_privs_14) : q ∈ lw_privs := List.mem_append_right _ (List.mem_append_right _ (List.mem_append_right _ (List.mem_append_right _ (List.mem_append_right _ (List.mem_append_right _ (List.mem_append_right _ (List.mem_append_right _ (List.mem_append_right _ (List.mem_append_right _ (List.mem_append_right _ (List.mem_append_right _ (List.mem_append_right _ (List.mem_append_left _ h)))))))))))))
theorem pv_15 {q : MethodName × Nat} (h : q ∈ lw_privs_15) : q ∈ lw_privs := List.mem_append_right _ (List.mem_append_right _ (List.mem_append_right _ (List.mem_append_right _ (List.mem_append_right _ (List.mem_append_right _ (List.mem_append_right _ (List.mem_append_right _ (List.mem_append_right _ (List.mem_append_right _ (List.mem_append_right _ (List.mem_append_right _ (List.mem_append_right _ (List.mem_append_right _ (List.mem_append_left _ h))))))))))))))
theorem pv_16 {q : MethodName × Nat} (h : q ∈ lw_privs_16) : q ∈ lw_privs := List.mem_append_right _ (List.mem_append_right _ (List.mem_append_right _ (List.mem_append_right _ (List.mem_append_right _ (List.mem_append_right _ (List.mem_append_right _ (List.mem_append_right _ (List.mem_append_right _ (List.mem_append_right _ (List.mem_append_right _ (List.mem_append_right _ (List.mem_append_right _ (List.mem_append_right _ (List.mem_append_right _ (List.mem_append_left _ h)))))))))))))))
theorem pv_17 {q : MethodName × Nat} (h : q ∈ lw_privs_17) : q ∈ lw_privs := List.mem_append_right _ (List.mem_append_right _ (List.mem_append_right _ (List.mem_append_right _ (List.mem_append_right _ (List.mem_append_right _ (List.mem_append_right _ (List.mem_append_right _ (List.mem_append_right _ (List.mem_append_right _ (List.mem_append_right _ (List.mem_append_right _ (List.mem_append_right _ (List.mem_append_right _ (List.mem_append_right _ (List.mem_append_right _ (List.mem_append_left _ h))))))))))))))))
theorem pv_18 {q : MethodName × Nat} (h : q ∈ lw_privs_18) : q ∈ lw_privs := List.mem_append_right _ (List.mem_append_right _ (List.mem_append_right _ (List.mem_append_right _ (List.mem_append_right _ (List.mem_append_right _ (List.mem_append_right _ (List.mem_append_right _ (List.mem_append_right _ (List.mem_append_right _ (List.mem_append_right _ (List.mem_append_right _ (List.mem_append_right _ (List.mem_append_right _ (List.mem_append_right _ (List.mem_append_right _ (List.mem_append_right _ (List.mem_append_left _ h)))))))))))))))))
theorem pv_19 {q : MethodName × Nat} (h : q ∈ lw_privs_19) : q ∈ lw_privs := List.mem_append_right _ (List.mem_append_right _ (List.mem_append_right _ (List.mem_append_right _ (List.mem_append_right _ (List.mem_append_right _ (List.mem_append_right _ (List.mem_append_right _ (List.mem_append_right _ (List.mem_append_right _ (List.mem_append_right _ (List.mem_append_right _ (List.mem_append_right _ (List.mem_append_right _ (List.mem_append_right _ (List.mem_append_right _ (List.mem_append_right _ (List.mem_append_right _ (List.mem_append_left _ h))))))))))))))))))
theorem pv_20 {q : MethodName × Nat} (h : q ∈ lw_privs_20) : q ∈ lw_privs := List.mem_append_right _ (List.mem_append_right _ (List.mem_append_right _ (List.mem_append_right _ (List.mem_append_right _ (List.mem_append_right _ (List.mem_append_right _ (List.mem_append_right _ (List.mem_append_right _ (List.mem_append_right _ (List.mem_append_right _ (List.mem_append_right _ (List.mem_append_right _ (List.mem_append_right _ (List.mem_append_right _ (List.mem_append_right _ (List.mem_append_right _ (List.mem_append_right _ (List.mem_append_right _ (List.mem_append_left _ h)))))))))))))))))))
theorem pv_21 {q : MethodName × Nat} (h : q ∈ lw_privs_21) : q ∈ lw_privs := List.mem_append_right _ (List.mem_append_right _ (List.mem_append_right _ (List.mem_append_right _ (List.mem_append_right _ (List.mem_append_right _ (List.mem_append_right _ (List.mem_append_right _ (List.mem_append_right _ (List.mem_append_right _ (List.mem_append_right _ (List.mem_append_right _ (List.mem_append_right _ (List.mem_append_right _ (List.mem_append_right _ (List.mem_append_right _ (List.mem_append_right _ (List.mem_append_right _ (List.mem_append_right _ (List.mem_append_right _ (List.mem_append_left _ h))))))))))))))))))))
theorem pv_22 {q : MethodName × Nat} (h : q ∈ lw_privs_22) : q ∈ lw_privs := List.mem_append_right _ (List.mem_append_right _ (List.mem_append_right _ (List.mem_append_right _ (List.mem_append_right _ (List.mem_append_right _ (List.mem_append_right _ (List.mem_append_right _ (List.mem_append_right _ (List.mem_append_right _ (List.mem_append_right _ (List.mem_append_right _ (List.mem_append_right _ (List.mem_append_right _ (List.mem_append_right _ (List.mem_append_right _ (List.mem_append_right _ (List.mem_append_right _ (List.mem_append_right _ (List.mem_append_right _ (List.mem_append_right _ (List.mem_append_left _ h)))))))))))))))))))))
theorem pv_23 {q : MethodName × Nat} (h : q ∈ lw_privs_23) : q ∈ lw_privs := List.mem_append_right _ (List.mem_append_right _ (List.mem_append_right _ (List.mem_append_right _ (List.mem_append_right _ (List.mem_append_right _ (List.mem_append_right _ (List.mem_append_right _ (List.mem_append_right _ (List.mem_append_right _ (List.mem_append_right _ (List.mem_append_right _ (List.mem_append_right _ (List.mem_append_right _ (List.mem_append_right _ (List.mem_append_right _ (List.mem_append_right _ (List.mem_append_right _ (List.mem_append_right _ (List.mem_append_right _ (List.mem_append_right _ (List.mem_append_right _ (List.mem_append_left _ h))))))))))))))))))))))
theorem pv_24 {q : MethodName × Nat} (h : q ∈ lw_privs_24) : q ∈ lw_privs := List.mem_append_right _ (List.mem_append_right _ (List.mem_append_right _ (List.mem_append_right _ (List.mem_append_right _ (List.mem_append_right _ (List.mem_append_right _ (List.mem_append_right _ (List.mem_append_right _ (List.mem_append_right _ (List.mem_append_right _ (List.mem_append_right _ (List.mem_append_right _ (List.mem_append_right _ (List.mem_append_right _ (List.mem_append_right _ (List.mem_append_right _ (List.mem_append_right _ (List.mem_append_right _ (List.mem_append_right _ (List.mem_append_right _ (List.mem_append_right _ (List.mem_append_right _ (List.mem_append_left _ h)))))))))))))))))))))))
theorem pv_25 {q : MethodName × Nat} (h : q ∈ lw_privs_25) : q ∈ lw_privs := List.mem_append_right _ (List.mem_append_right _ (List.mem_append_right _ (List.mem_append_right _ (List.mem_append_right _ (List.mem_append_right _ (List.mem_append_right _ (List.mem_append_right _ (List.mem_append_right _ (List.mem_append_right _ (List.mem_append_right _ (List.mem_append_right _ (List.mem_append_right _ (List.mem_append_right _ (List.mem_append_right _ (List.mem_append_right _ (List.mem_append_right _ (List.mem_append_right _ (List.mem_append_right _ (List.mem_append_right _ (List.mem_append_right _ (List.mem_append_right _ (List.mem_append_right _ (List.mem_append_right _ (List.mem_append_left _ h))))))))))))))))))))))))
theorem pv_26 {q : MethodName × Nat} (h : q ∈ lw_privs_26) : q ∈ lw_privs := List.mem_append_right _ (List.mem_append_right _ (List.mem_append_right _ (List.mem_append_right _ (List.mem_append_right _ (List.mem_append_right _ (List.mem_append_right _ (List.mem_append_right _ (List.mem_append_right _ (List.mem_append_right _ (List.mem_append_right _ (List.mem_append_right _ (List.mem_append_right _ (List.mem_append_right _ (List.mem_append_right _ (List.mem_append_right _ (List.mem_append_right _ (List.mem_append_right _ (List.mem_append_right _ (List.mem_append_right _ (List.mem_append_right _ (List.mem_append_right _ (List.mem_append_right _ (List.mem_append_right _ (List.mem_append_right _ (List.mem_append_left _ h)))))))))))))))))))))))))
theorem pv_27 {q : MethodName × Nat} (h : q ∈ lw_privs_27) : q ∈ lw_privs := List.mem_append_right _ (List.mem_append_right _ (List.mem_append_right _ (List.mem_append_right _ (List.mem_append_right _ (List.mem_append_right _ (List.mem_append_right _ (List.mem_append_right _ (List.mem_append_right _ (List.mem_append_right _ (List.mem_append_right _ (List.mem_append_right _ (List.mem_append_right _ (List.mem_append_right _ (List.mem_append_right _ (List.mem_append_right _ (List.mem_append_right _ (List.mem_append_right _ (List.mem_append_right _ (List.mem_append_right _ (List.mem_append_right _ (List.mem_append_right _ (List.mem_append_right _ (List.mem_append_right _ (List.mem_append_right _ (List.mem_append_right _ (List.mem_append_left _ h))))))))))))))))))))))))))
theorem pv_28 {q : MethodName × Nat} (h : q ∈ lw_privs_28) : q ∈ lw_privs := List.mem_append_right _ (List.mem_append_right _ (List.mem_append_right _ (List.mem_append_right _ (List.mem_append_right _ (List.mem_append_right _ (List.mem_append_right _ (List.mem_append_right _ (List.mem_append_right _ (List.mem_append_right _ (List.mem_append_right _ (List.mem_append_right _ (List.mem_append_right _ (List.mem_append_right _ (List.mem_append_right _ (List.mem_append_right _ (List.mem_append_right _ (List.mem_append_right _ (List.mem_append_right _ (List.mem_append_right _ (List.mem_append_right _ (List.mem_append_right _ (List.mem_append_right _ (List.mem_append_right _ (List.mem_append_right _ (List.mem_append_right _ (List.mem_append_right _ (List.mem_append_left _ h)))))))))))))))))))))))))))
theorem pv_29 {q : MethodName × Nat} (h : q ∈ lw_privs_29) : q ∈ lw_privs := List.mem_append_right _ (List.mem_append_right _ (List.mem_append_right _ (List.mem_append_right _ (List.mem_append_right _ (List.mem_append_right _ (List.mem_append_right _ (List.mem_append_right _ (List.mem_append_right _ (List.mem_append_right _ (List.mem_append_right _ (List.mem_append_right _ (List.mem_append_right _ (List.mem_append_right _ (List.mem_append_right _ (List.mem_append_right _ (List.mem_append_right _ (List.mem_append_right _ (List.mem_append_right _ (List.mem_append_right _ (List.mem_append_right _ (List.mem_append_right _ (List.mem_append_right _ (List.mem_append_right _ (List.mem_append_right _ (List.mem_append_right _ (List.mem_append_right _ (List.mem_append_right _ (List.mem_append_left _ h))))))))))))))))))))))))))))
theorem pv_30 {q : MethodName × Nat} (h : q ∈ lw_privs_30) : q ∈ lw_privs := List.mem_append_right _ (List.mem_append_right _ (List.mem_append_right _ (List.mem_append_right _ (List.mem_append_right _ (List.mem_append_right _ (List.mem_append_right _ (List.mem_append_right _ (List.mem_append_right _ (List.mem_append_right _ (List.mem_append_right _ (List.mem_append_right _ (List.mem_append_right _ (List.mem_append_right _ (List.mem_append_right _ (List.mem_append_right _ (List.mem_append_right _ (List.mem_append_right _ (List.mem_append_right _ (List.mem_append_right _ (List.mem_append_right _ (List.mem_append_right _ (List.mem_append_right _ (List.mem_append_right _ (List.mem_append_right _ (List.mem_append_right _ (List.mem_append_right _ (List.mem_append_right _ (List.mem_append_right _ (List.mem_append_left _ h)))))))))))))))))))))))))))))
theorem pv_31 {q : MethodName × Nat} (h : q ∈ lw_privs_31) : q ∈ lw_privs := List.mem_append_right _ (List.mem_append_right _ (List.mem_append_right _ (List.mem_append_right _ (List.mem_append_right _ (List.mem_append_right _ (List.mem_append_right _ (List.mem_append_right _ (List.mem_append_right _ (List.mem_append_right _ (List.mem_append_right _ (List.mem_append_right _ (List.mem_append_right _ (List.mem_append_right _ (List.mem_append_right _ (List.mem_append_right _ (List.mem_append_right _ (List.mem_append_right _ (List.mem_append_right _ (List.mem_append_right _ (List.mem_append_right _ (List.mem_append_right _ (List.mem_append_right _ (List.mem_append_right _ (List.mem_append_right _ (List.mem_append_right _ (List.mem_append_right _ (List.mem_append_right _ (List.mem_append_right _ (List.mem_append_right _ (List.mem_append_left _ h))))))))))))))))))))))))))))))
theorem pv_32 {q : MethodName × Nat} (h : q ∈ lw_privs_32) : q ∈ lw_privs := List.mem_append_right _ (List.mem_append_right _ (List.mem_append_right _ (List.mem_append_right _ (List.mem_append_right _ (List.mem_append_right _ (List.mem_append_right _ (List.mem_append_right _ (List.mem_append_right _ (List.mem_append_right _ (List.mem_append_right _ (List.mem_append_right _ (List.mem_append_right _ (List.mem_append_right _ (List.mem_append_right _ (List.mem_append_right _ (List.mem_append_right _ (List.mem_append_right _ (List.mem_append_right _ (List.mem_append_right _ (List.mem_append_right _ (List.mem_append_right _ (List.mem_append_right _ (List.mem_append_right _ (List.mem_append_right _ (List.mem_append_right _ (List.mem_append_right _ (List.mem_append_right _ (List.mem_append_right _ (List.mem_append_right _ (List.mem_append_right _ (List.mem_append_left _ h)))))))))))))))))))))))))))))))
theorem pv_33 {q : MethodName × Nat} (h : q ∈ lw_privs_33) : q ∈ lw_privs := List.mem_append_right _ (List.mem_append_right _ (List.mem_append_right _ (List.mem_append_right _ (List.mem_append_right _ (List.mem_append_right _ (List.mem_append_right _ (List.mem_append_right _ (List.mem_append_right _ (List.mem_append_right _ (List.mem_append_right _ (List.mem_append_right _ (List.mem_append_right _ (List.mem_append_right _ (List.mem_append_right _ (List.mem_append_right _ (List.mem_append_right _ (List.mem_append_right _ (List.mem_append_right _ (List.mem_append_right _ (List.mem_append_right _ (List.mem_append_right _ (List.mem_append_right _ (List.mem_append_right _ (List.mem_append_right _ (List.mem_append_right _ (List.mem_append_right _ (List.mem_append_right _ (List.mem_append_right _ (List.mem_append_right _ (List.mem_append_right _ (List.mem_append_right _ (h))))))))))))))))))))))))))))))))
theorem uz_0 : vz_0 ∈ lw_tbl := sub_9 (List.mem_of_getElem? (i := 129) rfl)
theorem uz_1 : vz_1 ∈ lw_tbl := sub_9 (List.mem_of_getElem? (i := 131) rfl)
theorem uz_2 : vz_2 ∈ lw_tbl := sub_9 (List.mem_of_getElem? (i := 133) rfl)
theorem uz_3 : vz_3 ∈ lw_tbl := sub_9 (List.mem_of_getElem? (i := 135) rfl)
theorem uz_4 : vz_4 ∈ lw_tbl := sub_9 (List.mem_of_getElem? (i := 137) rfl)
theorem uz_5 : vz_5 ∈ lw_tbl := sub_9 (List.mem_of_getElem? (i := 139) rfl)
theorem uz_6 : vz_6 ∈ lw_tbl := sub_9 (List.mem_of_getElem? (i := 141) rfl)
theorem uz_7 : vz_7 ∈ lw_tbl := sub_9 (List.mem_of_getElem? (i := 143) rfl)
theorem uz_8 : vz_8 ∈ lw_tbl := sub_9 (List.mem_of_getElem? (i := 145) rfl)
theorem uz_9 : vz_9 ∈ lw_tbl := sub_9 (List.mem_of_getElem? (i := 147) rfl)
theorem uz_10 : vz_10 ∈ lw_tbl := sub_9 (List.mem_of_getElem? (i := 149) rfl)
theorem uz_11 : vz_11 ∈ lw_tbl := sub_9 (List.mem_of_getElem? (i := 151) rfl)
theorem uz_12 : vz_12 ∈ lw_tbl := sub_9 (List.mem_of_getElem? (i := 153) rfl)
theorem uz_13 : vz_13 ∈ lw_tbl := sub_2 (List.mem_of_getElem? (i := 107) rfl)
theorem uz_14 : vz_14 ∈ lw_tbl := sub_2 (List.mem_of_getElem? (i := 109) rfl)
theorem uz_15 : vz_15 ∈ lw_tbl := sub_2 (List.mem_of_getElem? (i := 111) rfl)
theorem uz_16 : vz_16 ∈ lw_tbl := sub_2 (List.mem_of_getElem? (i := 113) rfl)
theorem uz_17 : vz_17 ∈ lw_tbl := sub_2 (List.mem_of_getElem? (i := 115) rfl)
theorem uz_18 : vz_18 ∈ lw_tbl := sub_2 (List.mem_of_getElem? (i := 117) rfl)
theorem uz_19 : vz_19 ∈ lw_tbl := sub_2 (List.mem_of_getElem? (i := 119) rfl)
theorem uz_20 : vz_20 ∈ lw_tbl := sub_2 (List.mem_of_getElem? (i := 121) rfl)
theorem uz_21 : vz_21 ∈ lw_tbl := sub_2 (List.mem_of_getElem? (i := 123) rfl)
theorem uz_22 : vz_22 ∈ lw_tbl := sub_2 (List.mem_of_getElem? (i := 125) rfl)
theorem uz_23 : vz_23 ∈ lw_tbl := sub_2 (List.mem_of_getElem? (i := 127) rfl)
theorem uz_24 : vz_24 ∈ lw_tbl := sub_2 (List.mem_of_getElem? (i := 129) rfl)
theorem uz_25 : vz_25 ∈ lw_tbl := sub_2 (List.mem_of_getElem? (i := 131) rfl)
theorem uz_26 : vz_26 ∈ lw_tbl := sub_2 (List.mem_of_getElem? (i := 133) rfl)
theorem uz_27 : vz_27 ∈ lw_tbl := sub_1 (List.mem_of_getElem? (i := 144) rfl)
theorem uz_28 : vz_28 ∈ lw_tbl := sub_1 (List.mem_of_getElem? (i := 146) rfl)
theorem uz_29 : vz_29 ∈ lw_tbl := sub_1 (List.mem_of_getElem? (i := 148) rfl)
theorem uz_30 : vz_30 ∈ lw_tbl := sub_1 (List.mem_of_getElem? (i := 150) rfl)
theorem uz_31 : vz_31 ∈ lw_tbl := sub_1 (List.mem_of_getElem? (i := 152) rfl)
theorem uz_32 : vz_32 ∈ lw_tbl := sub_1 (List.mem_of_getElem? (i := 154) rfl)
theorem uz_33 : vz_33 ∈ lw_tbl := sub_1 (List.mem_of_getElem? (i := 156) rfl)
theorem uz_34 : vz_34 ∈ lw_tbl := sub_1 (List.mem_of_getElem? (i := 158) rfl)
theorem uz_35 : vz_35 ∈ lw_tbl := sub_1 (List.mem_of_getElem? (i := 160) rfl)
theorem uz_36 : vz_36 ∈ lw_tbl := sub_2 (List.mem_of_getElem? (i := 159) rfl)
theorem uz_37 : vz_37 ∈ lw_tbl := sub_2 (List.mem_of_getElem? (i := 161) rfl)
theorem uz_38 : vz_38 ∈ lw_tbl := sub_2 (List.mem_of_getElem? (i := 163) rfl)
theorem uz_39 : vz_39 ∈ lw_tbl := sub_2 (List.mem_of_getElem? (i := 165) rfl)
theorem uz_40 : vz_40 ∈ lw_tbl := sub_2 (List.mem_of_getElem? (i := 167) rfl)
theorem uz_41 : vz_41 ∈ lw_tbl := sub_2 (List.mem_of_getElem? (i := 169) rfl)
theorem uz_42 : vz_42 ∈ lw_tbl := sub_2 (List.mem_of_getElem? (i := 171) rfl)
theorem uz_43 : vz_43 ∈ lw_tbl := sub_2 (List.mem_of_getElem? (i := 173) rfl)
theorem uz_44 : vz_44 ∈ lw_tbl := sub_2 (List.mem_of_getElem? (i := 175) rfl)
theorem uz_45 : vz_45 ∈ lw_tbl := sub_2 (List.mem_of_getElem? (i := 177) rfl)
theorem uz_46 : vz_46 ∈ lw_tbl := sub_2 (List.mem_of_getElem? (i := 179) rfl)
theorem uz_47 : vz_47 ∈ lw_tbl := sub_2 (List.mem_of_getElem? (i := 181) rfl)
theorem uz_48 : vz_48 ∈ lw_tbl := sub_2 (List.mem_of_getElem? (i := 183) rfl)
theorem uz_49 : vz_49 ∈ lw_tbl := sub_2 (List.mem_of_getElem? (i := 185) rfl)
theorem uz_50 : vz_50 ∈ lw_tbl := sub_1 (List.mem_of_getElem? (i := 63) rfl)
theorem uz_51 : vz_51 ∈ lw_tbl := sub_1 (List.mem_of_getElem? (i := 65) rfl)
theorem uz_52 : vz_52 ∈ lw_tbl := sub_1 (List.mem_of_getElem? (i := 67) rfl)
theorem uz_53 : vz_53 ∈ lw_tbl := sub_1 (List.mem_of_getElem? (i := 69) rfl)
theorem uz_54 : vz_54 ∈ lw_tbl := sub_1 (List.mem_of_getElem? (i := 71) rfl)
theorem uz_55 : vz_55 ∈ lw_tbl := sub_1 (List.mem_of_getElem? (i := 73) rfl)
theorem uz_56 : vz_56 ∈ lw_tbl := sub_1 (List.mem_of_getElem? (i := 75) rfl)
theorem uz_57 : vz_57 ∈ lw_tbl := sub_1 (List.mem_of_getElem? (i := 77) rfl)
theorem uz_58 : vz_58 ∈ lw_tbl := sub_1 (List.mem_of_getElem? (i := 79) rfl)
theorem uz_59 : vz_59 ∈ lw_tbl := sub_4 (List.mem_of_getElem? (i := 71) rfl)
theorem uz_60 : vz_60 ∈ lw_tbl := sub_4 (List.mem_of_getElem? (i := 73) rfl)
theorem uz_61 : vz_61 ∈ lw_tbl := sub_4 (List.mem_of_getElem? (i := 75) rfl)
theorem uz_62 : vz_62 ∈ lw_tbl := sub_4 (List.mem_of_getElem? (i := 77) rfl)
theorem uz_63 : vz_63 ∈ lw_tbl := sub_4 (List.mem_of_getElem? (i := 79) rfl)
theorem uz_64 : vz_64 ∈ lw_tbl := sub_4 (List.mem_of_getElem? (i := 81) rfl)
theorem uz_65 : vz_65 ∈ lw_tbl := sub_4 (List.mem_of_getElem? (i := 83) rfl)
theorem uz_66 : vz_66 ∈ lw_tbl := sub_4 (List.mem_of_getElem? (i := 85) rfl)
theorem uz_67 : vz_67 ∈ lw_tbl := sub_4 (List.mem_of_getElem? (i := 87) rfl)
theorem uz_68 : vz_68 ∈ lw_tbl := sub_4 (List.mem_of_getElem? (i := 89) rfl)
theorem uz_69 : vz_69 ∈ lw_tbl := sub_4 (List.mem_of_getElem? (i := 91) rfl)
theorem uz_70 : vz_70 ∈ lw_tbl := sub_4 (List.mem_of_getElem? (i := 93) rfl)
theorem uz_71 : vz_71 ∈ lw_tbl := sub_4 (List.mem_of_getElem? (i := 95) rfl)
theorem uz_72 : vz_72 ∈ lw_tbl := sub_4 (List.mem_of_getElem? (i := 97) rfl)
theorem uz_73 : vz_73 ∈ lw_tbl := sub_4 (List.mem_of_getElem? (i := 99) rfl)
theorem uz_74 : vz_74 ∈ lw_tbl := sub_4 (List.mem_of_getElem? (i := 101) rfl)
theorem uz_75 : vz_75 ∈ lw_tbl := sub_4 (List.mem_of_getElem? (i := 103) rfl)
theorem uz_76 : vz_76 ∈ lw_tbl := sub_4 (List.mem_of_getElem? (i := 105) rfl)
theorem uz_77 : vz_77 ∈ lw_tbl := sub_4 (List.mem_of_getElem? (i := 107) rfl)
theorem uz_78 : vz_78 ∈ lw_tbl := sub_4 (List.mem_of_getElem? (i := 109) rfl)
theorem uz_79 : vz_79 ∈ lw_tbl := sub_4 (List.mem_of_getElem? (i := 111) rfl)
theorem uz_80 : vz_80 ∈ lw_tbl := sub_3 (List.mem_of_getElem? (i := 35) rfl)
theorem uz_81 : vz_81 ∈ lw_tbl := sub_3 (List.mem_of_getElem? (i := 37) rfl)
theorem uz_82 : vz_82 ∈ lw_tbl := sub_3 (List.mem_of_getElem? (i := 39) rfl)
theorem uz_83 : vz_83 ∈ lw_tbl := sub_3 (List.mem_of_getElem? (i := 41) rfl)
theorem uz_84 : vz_84 ∈ lw_tbl := sub_3 (List.mem_of_getElem? (i := 43) rfl)
theorem uz_85 : vz_85 ∈ lw_tbl := sub_3 (List.mem_of_getElem? (i := 45) rfl)
theorem uz_86 : vz_86 ∈ lw_tbl := sub_3 (List.mem_of_getElem? (i := 47) rfl)
theorem uz_87 : vz_87 ∈ lw_tbl := sub_3 (List.mem_of_getElem? (i := 49) rfl)
theorem uz_88 : vz_88 ∈ lw_tbl := sub_3 (List.mem_of_getElem? (i := 51) rfl)
theorem uz_89 : vz_89 ∈ lw_tbl := sub_3 (List.mem_of_getElem? (i := 53) rfl)
theorem uz_90 : vz_90 ∈ lw_tbl := sub_3 (List.mem_of_getElem? (i := 55) rfl)
theorem uz_91 : vz_91 ∈ lw_tbl := sub_3 (List.mem_of_getElem? (i := 57) rfl)
theorem uz_92 : vz_92 ∈ lw_tbl := sub_3 (List.mem_of_getElem? (i := 59) rfl)
theorem uz_93 : vz_93 ∈ lw_tbl := sub_3 (List.mem_of_getElem? (i := 61) rfl)
theorem uz_94 : vz_94 ∈ lw_tbl := sub_3 (List.mem_of_getElem? (i := 63) rfl)
theorem uz_95 : vz_95 ∈ lw_tbl := sub_2 (List.mem_of_getElem? (i := 68) rfl)
theorem uz_96 : vz_96 ∈ lw_tbl := sub_2 (List.mem_of_getElem? (i := 70) rfl)
theorem uz_97 : vz_97 ∈ lw_tbl := sub_2 (List.mem_of_getElem? (i := 72) rfl)
theorem uz_98 : vz_98 ∈ lw_tbl := sub_2 (List.mem_of_getElem? (i := 74) rfl)
theorem uz_99 : vz_99 ∈ lw_tbl := sub_2 (List.mem_of_getElem? (i := 76) rfl)
theorem uz_100 : vz_100 ∈ lw_tbl := sub_2 (List.mem_of_getElem? (i := 78) rfl)
theorem uz_101 : vz_101 ∈ lw_tbl := sub_2 (List.mem_of_getElem? (i := 80) rfl)
theorem uz_102 : vz_102 ∈ lw_tbl := sub_2 (List.mem_of_getElem? (i := 82) rfl)
theorem uz_103 : vz_103 ∈ lw_tbl := sub_2 (List.mem_of_getElem? (i := 84) rfl)
theorem uz_104 : vz_104 ∈ lw_tbl := sub_3 (List.mem_of_getElem? (i := 158) rfl)
theorem uz_105 : vz_105 ∈ lw_tbl := sub_3 (List.mem_of_getElem? (i := 160) rfl)
theorem uz_106 : vz_106 ∈ lw_tbl := sub_3 (List.mem_of_getElem? (i := 162) rfl)
theorem uz_107 : vz_107 ∈ lw_tbl := sub_3 (List.mem_of_getElem? (i := 164) rfl)
theorem uz_108 : vz_108 ∈ lw_tbl := sub_3 (List.mem_of_getElem? (i := 166) rfl)
theorem uz_109 : vz_109 ∈ lw_tbl := sub_3 (List.mem_of_getElem? (i := 168) rfl)
theorem uz_110 : vz_110 ∈ lw_tbl := sub_3 (List.mem_of_getElem? (i := 170) rfl)
theorem uz_111 : vz_111 ∈ lw_tbl := sub_3 (List.mem_of_getElem? (i := 172) rfl)
theorem uz_112 : vz_112 ∈ lw_tbl := sub_3 (List.mem_of_getElem? (i := 174) rfl)
theorem uz_113 : vz_113 ∈ lw_tbl := sub_3 (List.mem_of_getElem? (i := 176) rfl)
theorem uz_114 : vz_114 ∈ lw_tbl := sub_3 (List.mem_of_getElem? (i := 178) rfl)
theorem uz_115 : vz_115 ∈ lw_tbl := sub_3 (List.mem_of_getElem? (i := 180) rfl)
theorem uz_116 : vz_116 ∈ lw_tbl := sub_3 (List.mem_of_getElem? (i := 182) rfl)
theorem uz_117 : vz_117 ∈ lw_tbl := sub_3 (List.mem_of_getElem? (i := 184) rfl)
theorem uz_118 : vz_118 ∈ lw_tbl := sub_3 (List.mem_of_getElem? (i := 186) rfl)
theorem uz_119 : vz_119 ∈ lw_tbl := sub_3 (List.mem_of_getElem? (i := 188) rfl)
theorem uz_120 : vz_120 ∈ lw_tbl := sub_3 (List.mem_of_getElem? (i := 190) rfl)
theorem uz_121 : vz_121 ∈ lw_tbl := sub_3 (List.mem_of_getElem? (i := 192) rfl)
theorem uz_122 : vz_122 ∈ lw_tbl := sub_3 (List.mem_of_getElem? (i := 194) rfl)
theorem uz_123 : vz_123 ∈ lw_tbl := sub_3 (List.mem_of_getElem? (i := 196) rfl)
theorem uz_124 : vz_124 ∈ lw_tbl := sub_3 (List.mem_of_getElem? (i := 198) rfl)
theorem uz_125 : vz_125 ∈ lw_tbl := sub_3 (List.mem_of_getElem? (i := 200) rfl)
theorem uz_126 : vz_126 ∈ lw_tbl := sub_3 (List.mem_of_getElem? (i := 202) rfl)
theorem uz_127 : vz_127 ∈ lw_tbl := sub_3 (List.mem_of_getElem? (i := 204) rfl)
theorem uz_128 : vz_128 ∈ lw_tbl := sub_3 (List.mem_of_getElem? (i := 206) rfl)
theorem uz_129 : vz_129 ∈ lw_tbl := sub_3 (List.mem_of_getElem? (i := 233) rfl)
theorem uz_130 : vz_130 ∈ lw_tbl := sub_3 (List.mem_of_getElem? (i := 235) rfl)
theorem uz_131 : vz_131 ∈ lw_tbl := sub_3 (List.mem_of_getElem? (i := 237) rfl)
theorem uz_132 : vz_132 ∈ lw_tbl := sub_3 (List.mem_of_getElem? (i := 239) rfl)
theorem uz_133 : vz_133 ∈ lw_tbl := sub_4 (List.mem_of_getElem? (i := 1) rfl)
theorem uz_134 : vz_134 ∈ lw_tbl := sub_4 (List.mem_of_getElem? (i := 3) rfl)
theorem uz_135 : vz_135 ∈ lw_tbl := sub_4 (List.mem_of_getElem? (i := 5) rfl)
theorem uz_136 : vz_136 ∈ lw_tbl := sub_4 (List.mem_of_getElem? (i := 7) rfl)
theorem uz_137 : vz_137 ∈ lw_tbl := sub_4 (List.mem_of_getElem? (i := 9) rfl)
theorem uz_138 : vz_138 ∈ lw_tbl := sub_4 (List.mem_of_getElem? (i := 11) rfl)
theorem uz_139 : vz_139 ∈ lw_tbl := sub_4 (List.mem_of_getElem? (i := 13) rfl)
theorem uz_140 : vz_140 ∈ lw_tbl := sub_4 (List.mem_of_getElem? (i := 15) rfl)
theorem uz_141 : vz_141 ∈ lw_tbl := sub_4 (List.mem_of_getElem? (i := 17) rfl)
theorem uz_142 : vz_142 ∈ lw_tbl := sub_4 (List.mem_of_getElem? (i := 19) rfl)
theorem uz_143 : vz_143 ∈ lw_tbl := sub_4 (List.mem_of_getElem? (i := 141) rfl)
theorem uz_144 : vz_144 ∈ lw_tbl := sub_4 (List.mem_of_getElem? (i := 143) rfl)
theorem uz_145 : vz_145 ∈ lw_tbl := sub_4 (List.mem_of_getElem? (i := 145) rfl)
theorem uz_146 : vz_146 ∈ lw_tbl := sub_4 (List.mem_of_getElem? (i := 147) rfl)
theorem uz_147 : vz_147 ∈ lw_tbl := sub_4 (List.mem_of_getElem? (i := 149) rfl)
theorem uz_148 : vz_148 ∈ lw_tbl := sub_4 (List.mem_of_getElem? (i := 151) rfl)
theorem uz_149 : vz_149 ∈ lw_tbl := sub_4 (List.mem_of_getElem? (i := 153) rfl)
theorem uz_150 : vz_150 ∈ lw_tbl := sub_4 (List.mem_of_getElem? (i := 155) rfl)
theorem uz_151 : vz_151 ∈ lw_tbl := sub_4 (List.mem_of_getElem? (i := 157) rfl)
theorem uz_152 : vz_152 ∈ lw_tbl := sub_4 (List.mem_of_getElem? (i := 159) rfl)
theorem uz_153 : vz_153 ∈ lw_tbl := sub_4 (List.mem_of_getElem? (i := 161) rfl)
theorem uz_154 : vz_154 ∈ lw_tbl := sub_4 (List.mem_of_getElem? (i := 163) rfl)
theorem uz_155 : vz_155 ∈ lw_tbl := sub_4 (List.mem_of_getElem? (i := 165) rfl)
theorem uz_156 : vz_156 ∈ lw_tbl := sub_4 (List.mem_of_getElem? (i := 167) rfl)
theorem uz_157 : vz_157 ∈ lw_tbl := sub_4 (List.mem_of_getElem? (i := 169) rfl)
theorem uz_158 : vz_158 ∈ lw_tbl := sub_4 (List.mem_of_getElem? (i := 171) rfl)
theorem uz_159 : vz_159 ∈ lw_tbl := sub_4 (List.mem_of_getElem? (i := 173) rfl)
theorem uz_160 : vz_160 ∈ lw_tbl := sub_4 (List.mem_of_getElem? (i := 175) rfl)
theorem uz_161 : vz_161 ∈ lw_tbl := sub_4 (List.mem_of_getElem? (i := 177) rfl)
theorem uz_162 : vz_162 ∈ lw_tbl := sub_4 (List.mem_of_getElem? (i := 179) rfl)
theorem uz_163 : vz_163 ∈ lw_tbl := sub_4 (List.mem_of_getElem? (i := 181) rfl)
theorem uz_164 : vz_164 ∈ lw_tbl := sub_4 (List.mem_of_getElem? (i := 183) rfl)
theorem uz_165 : vz_165 ∈ lw_tbl := sub_4 (List.mem_of_getElem? (i := 185) rfl)
theorem uz_166 : vz_166 ∈ lw_tbl := sub_4 (List.mem_of_getElem? (i := 34) rfl)
theorem uz_167 : vz_167 ∈ lw_tbl := sub_4 (List.mem_of_getElem? (i := 36) rfl)
theorem uz_168 : vz_168 ∈ lw_tbl := sub_4 (List.mem_of_getElem? (i := 38) rfl)
theorem uz_169 : vz_169 ∈ lw_tbl := sub_4 (List.mem_of_getElem? (i := 40) rfl)
theorem uz_170 : vz_170 ∈ lw_tbl := sub_4 (List.mem_of_getElem? (i := 42) rfl)
theorem uz_171 : vz_171 ∈ lw_tbl := sub_4 (List.mem_of_getElem? (i := 44) rfl)
theorem uz_172 : vz_172 ∈ lw_tbl := sub_2 (List.mem_of_getElem? (i := 0) rfl)
theorem uz_173 : vz_173 ∈ lw_tbl := sub_2 (List.mem_of_getElem? (i := 2) rfl)
theorem uz_174 : vz_174 ∈ lw_tbl := sub_2 (List.mem_of_getElem? (i := 4) rfl)
theorem uz_175 : vz_175 ∈ lw_tbl := sub_2 (List.mem_of_getElem? (i := 6) rfl)
theorem uz_176 : vz_176 ∈ lw_tbl := sub_2 (List.mem_of_getElem? (i := 8) rfl)
theorem uz_177 : vz_177 ∈ lw_tbl := sub_2 (List.mem_of_getElem? (i := 10) rfl)
theorem uz_178 : vz_178 ∈ lw_tbl := sub_2 (List.mem_of_getElem? (i := 12) rfl)
theorem uz_179 : vz_179 ∈ lw_tbl := sub_2 (List.mem_of_getElem? (i := 14) rfl)
theorem uz_180 : vz_180 ∈ lw_tbl := sub_2 (List.mem_of_getElem? (i := 16) rfl)
theorem uz_181 : vz_181 ∈ lw_tbl := sub_2 (List.mem_of_getElem? (i := 18) rfl)
theorem uz_182 : vz_182 ∈ lw_tbl := sub_2 (List.mem_of_getElem? (i := 20) rfl)
theorem uz_183 : vz_183 ∈ lw_tbl := sub_2 (List.mem_of_getElem? (i := 22) rfl)
theorem uz_184 : vz_184 ∈ lw_tbl := sub_2 (List.mem_of_getElem? (i := 24) rfl)
theorem uz_185 : vz_185 ∈ lw_tbl := sub_2 (List.mem_of_getElem? (i := 26) rfl)
theorem uz_186 : vz_186 ∈ lw_tbl := sub_2 (List.mem_of_getElem? (i := 28) rfl)
theorem uz_187 : vz_187 ∈ lw_tbl := sub_2 (List.mem_of_getElem? (i := 30) rfl)
theorem uz_188 : vz_188 ∈ lw_tbl := sub_2 (List.mem_of_getElem? (i := 32) rfl)
theorem uz_189 : vz_189 ∈ lw_tbl := sub_2 (List.mem_of_getElem? (i := 34) rfl)
theorem uz_190 : vz_190 ∈ lw_tbl := sub_2 (List.mem_of_getElem? (i := 36) rfl)
theorem uz_191 : vz_191 ∈ lw_tbl := sub_2 (List.mem_of_getElem? (i := 38) rfl)
theorem uz_192 : vz_192 ∈ lw_tbl := sub_2 (List.mem_of_getElem? (i := 40) rfl)
theorem uz_193 : vz_193 ∈ lw_tbl := sub_2 (List.mem_of_getElem? (i := 42) rfl)
theorem uz_194 : vz_194 ∈ lw_tbl := sub_2 (List.mem_of_getElem? (i := 44) rfl)
theorem uz_195 : vz_195 ∈ lw_tbl := sub_2 (List.mem_of_getElem? (i := 46) rfl)
theorem uz_196 : vz_196 ∈ lw_tbl := sub_2 (List.mem_of_getElem? (i := 214) rfl)
theorem uz_197 : vz_197 ∈ lw_tbl := sub_2 (List.mem_of_getElem? (i := 216) rfl)
theorem uz_198 : vz_198 ∈ lw_tbl := sub_2 (List.mem_of_getElem? (i := 218) rfl)
theorem uz_199 : vz_199 ∈ lw_tbl := sub_2 (List.mem_of_getElem? (i := 220) rfl)
theorem uz_200 : vz_200 ∈ lw_tbl := sub_2 (List.mem_of_getElem? (i := 222) rfl)
theorem uz_201 : vz_201 ∈ lw_tbl := sub_2 (List.mem_of_getElem? (i := 224) rfl)
theorem uz_202 : vz_202 ∈ lw_tbl := sub_2 (List.mem_of_getElem? (i := 226) rfl)
theorem uz_203 : vz_203 ∈ lw_tbl := sub_2 (List.mem_of_getElem? (i := 228) rfl)
theorem uz_204 : vz_204 ∈ lw_tbl := sub_2 (List.mem_of_getElem? (i := 230) rfl)
theorem uz_205 : vz_205 ∈ lw_tbl := sub_2 (List.mem_of_getElem? (i := 232) rfl)
theorem uz_206 : vz_206 ∈ lw_tbl := sub_2 (List.mem_of_getElem? (i := 234) rfl)
theorem uz_207 : vz_207 ∈ lw_tbl := sub_2 (List.mem_of_getElem? (i := 236) rfl)
theorem uz_208 : vz_208 ∈ lw_tbl := sub_2 (List.mem_of_getElem? (i := 238) rfl)
theorem uz_209 : vz_209 ∈ lw_tbl := sub_3 (List.mem_of_getElem? (i := 0) rfl)
theorem uz_210 : vz_210 ∈ lw_tbl := sub_3 (List.mem_of_getElem? (i := 2) rfl)
theorem uz_211 : vz_211 ∈ lw_tbl := sub_3 (List.mem_of_getElem? (i := 4) rfl)
theorem uz_212 : vz_212 ∈ lw_tbl := sub_3 (List.mem_of_getElem? (i := 6) rfl)
theorem uz_213 : vz_213 ∈ lw_tbl := sub_3 (List.mem_of_getElem? (i := 8) rfl)
theorem uz_214 : vz_214 ∈ lw_tbl := sub_3 (List.mem_of_getElem? (i := 10) rfl)
theorem uz_215 : vz_215 ∈ lw_tbl := sub_17 (List.mem_of_getElem? (i := 64) rfl)
theorem uz_216 : vz_216 ∈ lw_tbl := sub_17 (List.mem_of_getElem? (i := 66) rfl)
theorem uz_217 : vz_217 ∈ lw_tbl := sub_17 (List.mem_of_getElem? (i := 68) rfl)
theorem uz_218 : vz_218 ∈ lw_tbl := sub_17 (List.mem_of_getElem? (i := 70) rfl)
theorem uz_219 : vz_219 ∈ lw_tbl := sub_17 (List.mem_of_getElem? (i := 72) rfl)
theorem uz_220 : vz_220 ∈ lw_tbl := sub_17 (List.mem_of_getElem? (i := 74) rfl)
theorem uz_221 : vz_221 ∈ lw_tbl := sub_17 (List.mem_of_getElem? (i := 76) rfl)
theorem uz_222 : vz_222 ∈ lw_tbl := sub_17 (List.mem_of_getElem? (i := 78) rfl)
theorem uz_223 : vz_223 ∈ lw_tbl := sub_17 (List.mem_of_getElem? (i := 80) rfl)
theorem uz_224 : vz_224 ∈ lw_tbl := sub_17 (List.mem_of_getElem? (i := 82) rfl)
theorem uz_225 : vz_225 ∈ lw_tbl := sub_17 (List.mem_of_getElem? (i := 84) rfl)
theorem uz_226 : vz_226 ∈ lw_tbl := sub_17 (List.mem_of_getElem? (i := 86) rfl)
theorem uz_227 : vz_227 ∈ lw_tbl := sub_17 (List.mem_of_getElem? (i := 88) rfl)
theorem uz_228 : vz_228 ∈ lw_tbl := sub_17 (List.mem_of_getElem? (i := 90) rfl)
theorem uz_229 : vz_229 ∈ lw_tbl := sub_17 (List.mem_of_getElem? (i := 92) rfl)
theorem uz_230 : vz_230 ∈ lw_tbl := sub_17 (List.mem_of_getElem? (i := 94) rfl)
theorem uz_231 : vz_231 ∈ lw_tbl := sub_17 (List.mem_of_getElem? (i := 96) rfl)
theorem uz_232 : vz_232 ∈ lw_tbl := sub_17 (List.mem_of_getElem? (i := 98) rfl)
theorem uz_233 : vz_233 ∈ lw_tbl := sub_17 (List.mem_of_getElem? (i := 100) rfl)
theorem uz_234 : vz_234 ∈ lw_tbl := sub_17 (List.mem_of_getElem? (i := 102) rfl)
theorem uz_235 : vz_235 ∈ lw_tbl := sub_17 (List.mem_of_getElem? (i := 104) rfl)
theorem uz_236 : vz_236 ∈ lw_tbl := sub_17 (List.mem_of_getElem? (i := 106) rfl)
theorem uz_237 : vz_237 ∈ lw_tbl := sub_17 (List.mem_of_getElem? (i := 108) rfl)
theorem uz_238 : vz_238 ∈ lw_tbl := sub_17 (List.mem_of_getElem? (i := 110) rfl)
theorem uz_239 : vz_239 ∈ lw_tbl := sub_17 (List.mem_of_getElem? (i := 112) rfl)
theorem uz_240 : vz_240 ∈ lw_tbl := sub_17 (List.mem_of_getElem? (i := 114) rfl)
theorem uz_241 : vz_241 ∈ lw_tbl := sub_17 (List.mem_of_getElem? (i := 116) rfl)
theorem uz_242 : vz_242 ∈ lw_tbl := sub_17 (List.mem_of_getElem? (i := 118) rfl)
theorem uz_243 : vz_243 ∈ lw_tbl := sub_17 (List.mem_of_getElem? (i := 120) rfl)
theorem uz_244 : vz_244 ∈ lw_tbl := sub_17 (List.mem_of_getElem? (i := 122) rfl)
theorem uz_245 : vz_245 ∈ lw_tbl := sub_17 (List.mem_of_getElem? (i := 124) rfl)
theorem uz_246 : vz_246 ∈ lw_tbl := sub_17 (List.mem_of_getElem? (i := 126) rfl)
theorem uz_247 : vz_247 ∈ lw_tbl := sub_17 (List.mem_of_getElem? (i := 128) rfl)
theorem uz_248 : vz_248 ∈ lw_tbl := sub_17 (List.mem_of_getElem? (i := 130) rfl)
theorem uz_249 : vz_249 ∈ lw_tbl := sub_17 (List.mem_of_getElem? (i := 132) rfl)
theorem uz_250 : vz_250 ∈ lw_tbl := sub_17 (List.mem_of_getElem? (i := 134) rfl)
theorem uz_251 : vz_251 ∈ lw_tbl := sub_17 (List.mem_of_getElem? (i := 136) rfl)
theorem uz_252 : vz_252 ∈ lw_tbl := sub_17 (List.mem_of_getElem? (i := 138) rfl)
theorem uz_253 : vz_253 ∈ lw_tbl := sub_17 (List.mem_of_getElem? (i := 140) rfl)
theorem uz_254 : vz_254 ∈ lw_tbl := sub_17 (List.mem_of_getElem? (i := 142) rfl)
theorem uz_255 : vz_255 ∈ lw_tbl := sub_17 (List.mem_of_getElem? (i := 144) rfl)
theorem uz_256 : vz_256 ∈ lw_tbl := sub_17 (List.mem_of_getElem? (i := 146) rfl)
theorem uz_257 : vz_257 ∈ lw_tbl := sub_17 (List.mem_of_getElem? (i := 148) rfl)
theorem uz_258 : vz_258 ∈ lw_tbl := sub_17 (List.mem_of_getElem? (i := 150) rfl)
theorem uz_259 : vz_259 ∈ lw_tbl := sub_17 (List.mem_of_getElem? (i := 152) rfl)
theorem uz_260 : vz_260 ∈ lw_tbl := sub_17 (List.mem_of_getElem? (i := 154) rfl)
theorem uz_261 : vz_261 ∈ lw_tbl := sub_17 (List.mem_of_getElem? (i := 156) rfl)
theorem uz_262 : vz_262 ∈ lw_tbl := sub_17 (List.mem_of_getElem? (i := 158) rfl)
theorem uz_263 : vz_263 ∈ lw_tbl := sub_17 (List.mem_of_getElem? (i := 160) rfl)
theorem uz_264 : vz_264 ∈ lw_tbl := sub_17 (List.mem_of_getElem? (i := 162) rfl)
theorem uz_265 : vz_265 ∈ lw_tbl := sub_17 (List.mem_of_getElem? (i := 164) rfl)
theorem uz_266 : vz_266 ∈ lw_tbl := sub_17 (List.mem_of_getElem? (i := 166) rfl)
theorem uz_267 : vz_267 ∈ lw_tbl := sub_17 (List.mem_of_getElem? (i := 168) rfl)
theorem uz_268 : vz_268 ∈ lw_tbl := sub_17 (List.mem_of_getElem? (i := 170) rfl)
theorem uz_269 : vz_269 ∈ lw_tbl := sub_17 (List.mem_of_getElem? (i := 172) rfl)
theorem uz_270 : vz_270 ∈ lw_tbl := sub_17 (List.mem_of_getElem? (i := 174) rfl)
theorem uz_271 : vz_271 ∈ lw_tbl := sub_17 (List.mem_of_getElem? (i := 176) rfl)
theorem uz_272 : vz_272 ∈ lw_tbl := sub_17 (List.mem_of_getElem? (i := 178) rfl)
theorem uz_273 : vz_273 ∈ lw_tbl := sub_17 (List.mem_of_getElem? (i := 180) rfl)
theorem uz_274 : vz_274 ∈ lw_tbl := sub_17 (List.mem_of_getElem? (i := 182) rfl)
theorem uz_275 : vz_275 ∈ lw_tbl := sub_17 (List.mem_of_getElem? (i := 184) rfl)
theorem uz_276 : vz_276 ∈ lw_tbl := sub_17 (List.mem_of_getElem? (i := 186) rfl)
theorem uz_277 : vz_277 ∈ lw_tbl := sub_17 (List.mem_of_getElem? (i := 188) rfl)
theorem uz_278 : vz_278 ∈ lw_tbl := sub_17 (List.mem_of_getElem? (i := 190) rfl)
theorem uz_279 : vz_279 ∈ lw_tbl := sub_17 (List.mem_of_getElem? (i := 192) rfl)
theorem uz_280 : vz_280 ∈ lw_tbl := sub_17 (List.mem_of_getElem? (i := 194) rfl)
theorem uz_281 : vz_281 ∈ lw_tbl := sub_17 (List.mem_of_getElem? (i := 196) rfl)
theorem uz_282 : vz_282 ∈ lw_tbl := sub_17 (List.mem_of_getElem? (i := 198) rfl)
theorem uz_283 : vz_283 ∈ lw_tbl := sub_17 (List.mem_of_getElem? (i := 200) rfl)
theorem uz_284 : vz_284 ∈ lw_tbl := sub_17 (List.mem_of_getElem? (i := 202) rfl)
theorem uz_285 : vz_285 ∈ lw_tbl := sub_17 (List.mem_of_getElem? (i := 204) rfl)
theorem uz_286 : vz_286 ∈ lw_tbl := sub_17 (List.mem_of_getElem? (i := 206) rfl)
theorem uz_287 : vz_287 ∈ lw_tbl := sub_17 (List.mem_of_getElem? (i := 208) rfl)
theorem uz_288 : vz_288 ∈ lw_tbl := sub_17 (List.mem_of_getElem? (i := 210) rfl)
theorem uz_289 : vz_289 ∈ lw_tbl := sub_17 (List.mem_of_getElem? (i := 212) rfl)
theorem uz_290 : vz_290 ∈ lw_tbl := sub_17 (List.mem_of_getElem? (i := 214) rfl)
theorem uz_291 : vz_291 ∈ lw_tbl := sub_17 (List.mem_of_getElem? (i := 216) rfl)
theorem uz_292 : vz_292 ∈ lw_tbl := sub_17 (List.mem_of_getElem? (i := 218) rfl)
theorem uz_293 : vz_293 ∈ lw_tbl := sub_17 (List.mem_of_getElem? (i := 220) rfl)
theorem uz_294 : vz_294 ∈ lw_tbl := sub_17 (List.mem_of_getElem? (i := 222) rfl)
theorem uz_295 : vz_295 ∈ lw_tbl := sub_17 (List.mem_of_getElem? (i := 224) rfl)
theorem uz_296 : vz_296 ∈ lw_tbl := sub_17 (List.mem_of_getElem? (i := 226) rfl)
theorem uz_297 : vz_297 ∈ lw_tbl := sub_17 (List.mem_of_getElem? (i := 228) rfl)
theorem uz_298 : vz_298 ∈ lw_tbl := sub_17 (List.mem_of_getElem? (i := 230) rfl)
theorem uz_299 : vz_299 ∈ lw_tbl := sub_17 (List.mem_of_getElem? (i := 232) rfl)
theorem uz_300 : vz_300 ∈ lw_tbl := sub_17 (List.mem_of_getElem? (i := 234) rfl)
theorem uz_301 : vz_301 ∈ lw_tbl := sub_17 (List.mem_of_getElem? (i := 236) rfl)
theorem uz_302 : vz_302 ∈ lw_tbl := sub_17 (List.mem_of_getElem? (i := 238) rfl)
theorem uz_303 : vz_303 ∈ lw_tbl := sub_18 (List.mem_of_getElem? (i := 0) rfl)
theorem uz_304 : vz_304 ∈ lw_tbl := sub_18 (List.mem_of_getElem? (i := 2) rfl)
theorem uz_305 : vz_305 ∈ lw_tbl := sub_18 (List.mem_of_getElem? (i := 4) rfl)
theorem uz_306 : vz_306 ∈ lw_tbl := sub_18 (List.mem_of_getElem? (i := 6) rfl)
theorem uz_307 : vz_307 ∈ lw_tbl := sub_18 (List.mem_of_getElem? (i := 8) rfl)
theorem uz_308 : vz_308 ∈ lw_tbl := sub_18 (List.mem_of_getElem? (i := 10) rfl)
theorem uz_309 : vz_309 ∈ lw_tbl := sub_18 (List.mem_of_getElem? (i := 12) rfl)
theorem uz_310 : vz_310 ∈ lw_tbl := sub_18 (List.mem_of_getElem? (i := 14) rfl)
theorem uz_311 : vz_311 ∈ lw_tbl := sub_18 (List.mem_of_getElem? (i := 16) rfl)
theorem uz_312 : vz_312 ∈ lw_tbl := sub_18 (List.mem_of_getElem? (i := 18) rfl)
theorem uz_313 : vz_313 ∈ lw_tbl := sub_18 (List.mem_of_getElem? (i := 20) rfl)
theorem uz_314 : vz_314 ∈ lw_tbl := sub_18 (List.mem_of_getElem? (i := 22) rfl)
theorem uz_315 : vz_315 ∈ lw_tbl := sub_18 (List.mem_of_getElem? (i := 24) rfl)
theorem uz_316 : vz_316 ∈ lw_tbl := sub_18 (List.mem_of_getElem? (i := 26) rfl)
theorem uz_317 : vz_317 ∈ lw_tbl := sub_18 (List.mem_of_getElem? (i := 28) rfl)
theorem uz_318 : vz_318 ∈ lw_tbl := sub_18 (List.mem_of_getElem? (i := 30) rfl)
theorem uz_319 : vz_319 ∈ lw_tbl := sub_18 (List.mem_of_getElem? (i := 32) rfl)
theorem uz_320 : vz_320 ∈ lw_tbl := sub_18 (List.mem_of_getElem? (i := 34) rfl)
theorem uz_321 : vz_321 ∈ lw_tbl := sub_18 (List.mem_of_getElem? (i := 36) rfl)
theorem uz_322 : vz_322 ∈ lw_tbl := sub_18 (List.mem_of_getElem? (i := 38) rfl)
theorem uz_323 : vz_323 ∈ lw_tbl := sub_18 (List.mem_of_getElem? (i := 40) rfl)
theorem uz_324 : vz_324 ∈ lw_tbl := sub_18 (List.mem_of_getElem? (i := 42) rfl)
theorem uz_325 : vz_325 ∈ lw_tbl := sub_18 (List.mem_of_getElem? (i := 44) rfl)
theorem uz_326 : vz_326 ∈ lw_tbl := sub_18 (List.mem_of_getElem? (i := 46) rfl)
theorem uz_327 : vz_327 ∈ lw_tbl := sub_18 (List.mem_of_getElem? (i := 48) rfl)
theorem uz_328 : vz_328 ∈ lw_tbl := sub_18 (List.mem_of_getElem? (i := 50) rfl)
theorem uz_329 : vz_329 ∈ lw_tbl := sub_18 (List.mem_of_getElem? (i := 52) rfl)
theorem uz_330 : vz_330 ∈ lw_tbl := sub_18 (List.mem_of_getElem? (i := 54) rfl)
theorem uz_331 : vz_331 ∈ lw_tbl := sub_18 (List.mem_of_getElem? (i := 56) rfl)
theorem uz_332 : vz_332 ∈ lw_tbl := sub_18 (List.mem_of_getElem? (i := 58) rfl)
theorem uz_333 : vz_333 ∈ lw_tbl := sub_18 (List.mem_of_getElem? (i := 60) rfl)
theorem uz_334 : vz_334 ∈ lw_tbl := sub_18 (List.mem_of_getElem? (i := 62) rfl)
theorem uz_335 : vz_335 ∈ lw_tbl := sub_18 (List.mem_of_getElem? (i := 64) rfl)
theorem uz_336 : vz_336 ∈ lw_tbl := sub_18 (List.mem_of_getElem? (i := 66) rfl)
theorem uz_337 : vz_337 ∈ lw_tbl := sub_18 (List.mem_of_getElem? (i := 68) rfl)
theorem uz_338 : vz_338 ∈ lw_tbl := sub_18 (List.mem_of_getElem? (i := 70) rfl)
theorem uz_339 : vz_339 ∈ lw_tbl := sub_18 (List.mem_of_getElem? (i := 72) rfl)
theorem uz_340 : vz_340 ∈ lw_tbl := sub_18 (List.mem_of_getElem? (i := 74) rfl)
theorem uz_341 : vz_341 ∈ lw_tbl := sub_18 (List.mem_of_getElem? (i := 76) rfl)
theorem uz_342 : vz_342 ∈ lw_tbl := sub_18 (List.mem_of_getElem? (i := 78) rfl)
theorem uz_343 : vz_343 ∈ lw_tbl := sub_18 (List.mem_of_getElem? (i := 80) rfl)
theorem uz_344 : vz_344 ∈ lw_tbl := sub_18 (List.mem_of_getElem? (i := 82) rfl)
theorem uz_345 : vz_345 ∈ lw_tbl := sub_18 (List.mem_of_getElem? (i := 84) rfl)
theorem uz_346 : vz_346 ∈ lw_tbl := sub_18 (List.mem_of_getElem? (i := 86) rfl)
theorem uz_347 : vz_347 ∈ lw_tbl := sub_18 (List.mem_of_getElem? (i := 88) rfl)
theorem uz_348 : vz_348 ∈ lw_tbl := sub_18 (List.mem_of_getElem? (i := 90) rfl)
theorem uz_349 : vz_349 ∈ lw_tbl := sub_18 (List.mem_of_getElem? (i := 92) rfl)
theorem uz_350 : vz_350 ∈ lw_tbl := sub_18 (List.mem_of_getElem? (i := 94) rfl)
theorem uz_351 : vz_351 ∈ lw_tbl := sub_18 (List.mem_of_getElem? (i := 96) rfl)
theorem uz_352 : vz_352 ∈ lw_tbl := sub_18 (List.mem_of_getElem? (i := 98) rfl)
theorem uz_353 : vz_353 ∈ lw_tbl := sub_18 (List.mem_of_getElem? (i := 100) rfl)
theorem uz_354 : vz_354 ∈ lw_tbl := sub_18 (List.mem_of_getElem? (i := 102) rfl)
theorem uz_355 : vz_355 ∈ lw_tbl := sub_18 (List.mem_of_getElem? (i := 104) rfl)
theorem uz_356 : vz_356 ∈ lw_tbl := sub_18 (List.mem_of_getElem? (i := 106) rfl)
theorem uz_357 : vz_357 ∈ lw_tbl := sub_18 (List.mem_of_getElem? (i := 108) rfl)
theorem uz_358 : vz_358 ∈ lw_tbl := sub_18 (List.mem_of_getElem? (i := 110) rfl)
theorem uz_359 : vz_359 ∈ lw_tbl := sub_18 (List.mem_of_getElem? (i := 112) rfl)
theorem uz_360 : vz_360 ∈ lw_tbl := sub_18 (List.mem_of_getElem? (i := 114) rfl)
theorem uz_361 : vz_361 ∈ lw_tbl := sub_18 (List.mem_of_getElem? (i := 116) rfl)
theorem uz_362 : vz_362 ∈ lw_tbl := sub_18 (List.mem_of_getElem? (i := 118) rfl)
theorem uz_363 : vz_363 ∈ lw_tbl := sub_18 (List.mem_of_getElem? (i := 120) rfl)
theorem uz_364 : vz_364 ∈ lw_tbl := sub_18 (List.mem_of_getElem? (i := 122) rfl)
theorem uz_365 : vz_365 ∈ lw_tbl := sub_18 (List.mem_of_getElem? (i := 124) rfl)
theorem uz_366 : vz_366 ∈ lw_tbl := sub_18 (List.mem_of_getElem? (i := 126) rfl)
theorem uz_367 : vz_367 ∈ lw_tbl := sub_18 (List.mem_of_getElem? (i := 128) rfl)
theorem uz_368 : vz_368 ∈ lw_tbl := sub_18 (List.mem_of_getElem? (i := 130) rfl)
theorem uz_369 : vz_369 ∈ lw_tbl := sub_18 (List.mem_of_getElem? (i := 132) rfl)
theorem uz_370 : vz_370 ∈ lw_tbl := sub_18 (List.mem_of_getElem? (i := 134) rfl)
theorem uz_371 : vz_371 ∈ lw_tbl := sub_18 (List.mem_of_getElem? (i := 136) rfl)
theorem uz_372 : vz_372 ∈ lw_tbl := sub_18 (List.mem_of_getElem? (i := 138) rfl)
theorem uz_373 : vz_373 ∈ lw_tbl := sub_18 (List.mem_of_getElem? (i := 140) rfl)
theorem uz_374 : vz_374 ∈ lw_tbl := sub_18 (List.mem_of_getElem? (i := 142) rfl)
theorem uz_375 : vz_375 ∈ lw_tbl := sub_18 (List.mem_of_getElem? (i := 144) rfl)
theorem uz_376 : vz_376 ∈ lw_tbl := sub_18 (List.mem_of_getElem? (i := 146) rfl)
theorem uz_377 : vz_377 ∈ lw_tbl := sub_18 (List.mem_of_getElem? (i := 148) rfl)
theorem uz_378 : vz_378 ∈ lw_tbl := sub_18 (List.mem_of_getElem? (i := 150) rfl)
theorem uz_379 : vz_379 ∈ lw_tbl := sub_18 (List.mem_of_getElem? (i := 152) rfl)
theorem uz_380 : vz_380 ∈ lw_tbl := sub_18 (List.mem_of_getElem? (i := 154) rfl)
theorem uz_381 : vz_381 ∈ lw_tbl := sub_18 (List.mem_of_getElem? (i := 156) rfl)
theorem uz_382 : vz_382 ∈ lw_tbl := sub_18 (List.mem_of_getElem? (i := 158) rfl)
theorem uz_383 : vz_383 ∈ lw_tbl := sub_18 (List.mem_of_getElem? (i := 160) rfl)
theorem uz_384 : vz_384 ∈ lw_tbl := sub_18 (List.mem_of_getElem? (i := 162) rfl)
theorem uz_385 : vz_385 ∈ lw_tbl := sub_18 (List.mem_of_getElem? (i := 164) rfl)
theorem uz_386 : vz_386 ∈ lw_tbl := sub_18 (List.mem_of_getElem? (i := 166) rfl)
theorem uz_387 : vz_387 ∈ lw_tbl := sub_18 (List.mem_of_getElem? (i := 168) rfl)
theorem uz_388 : vz_388 ∈ lw_tbl := sub_18 (List.mem_of_getElem? (i := 170) rfl)
theorem uz_389 : vz_389 ∈ lw_tbl := sub_18 (List.mem_of_getElem? (i := 172) rfl)
theorem uz_390 : vz_390 ∈ lw_tbl := sub_18 (List.mem_of_getElem? (i := 174) rfl)
theorem uz_391 : vz_391 ∈ lw_tbl := sub_18 (List.mem_of_getElem? (i := 176) rfl)
theorem uz_392 : vz_392 ∈ lw_tbl := sub_18 (List.mem_of_getElem? (i := 178) rfl)
theorem uz_393 : vz_393 ∈ lw_tbl := sub_18 (List.mem_of_getElem? (i := 180) rfl)
theorem uz_394 : vz_394 ∈ lw_tbl := sub_18 (List.mem_of_getElem? (i := 182) rfl)
theorem uz_395 : vz_395 ∈ lw_tbl := sub_18 (List.mem_of_getElem? (i := 184) rfl)
theorem uz_396 : vz_396 ∈ lw_tbl := sub_18 (List.mem_of_getElem? (i := 186) rfl)
theorem uz_397 : vz_397 ∈ lw_tbl := sub_18 (List.mem_of_getElem? (i := 188) rfl)
theorem uz_398 : vz_398 ∈ lw_tbl := sub_18 (List.mem_of_getElem? (i := 190) rfl)
theorem uz_399 : vz_399 ∈ lw_tbl := sub_18 (List.mem_of_getElem? (i := 192) rfl)
theorem uz_400 : vz_400 ∈ lw_tbl := sub_18 (List.mem_of_getElem? (i := 194) rfl)
theorem uz_401 : vz_401 ∈ lw_tbl := sub_18 (List.mem_of_getElem? (i := 196) rfl)
theorem uz_402 : vz_402 ∈ lw_tbl := sub_18 (List.mem_of_getElem? (i := 198) rfl)
theorem uz_403 : vz_403 ∈ lw_tbl := sub_18 (List.mem_of_getElem? (i := 200) rfl)
theorem uz_404 : vz_404 ∈ lw_tbl := sub_18 (List.mem_of_getElem? (i := 202) rfl)
theorem uz_405 : vz_405 ∈ lw_tbl := sub_18 (List.mem_of_getElem? (i := 204) rfl)
theorem uz_406 : vz_406 ∈ lw_tbl := sub_18 (List.mem_of_getElem? (i := 206) rfl)
theorem uz_407 : vz_407 ∈ lw_tbl := sub_18 (List.mem_of_getElem? (i := 208) rfl)
theorem uz_408 : vz_408 ∈ lw_tbl := sub_18 (List.mem_of_getElem? (i := 210) rfl)
theorem uz_409 : vz_409 ∈ lw_tbl := sub_18 (List.mem_of_getElem? (i := 212) rfl)
theorem uz_410 : vz_410 ∈ lw_tbl := sub_18 (List.mem_of_getElem? (i := 214) rfl)
theorem uz_411 : vz_411 ∈ lw_tbl := sub_18 (List.mem_of_getElem? (i := 216) rfl)
theorem uz_412 : vz_412 ∈ lw_tbl := sub_18 (List.mem_of_getElem? (i := 218) rfl)
theorem uz_413 : vz_413 ∈ lw_tbl := sub_18 (List.mem_of_getElem? (i := 220) rfl)
theorem uz_414 : vz_414 ∈ lw_tbl := sub_18 (List.mem_of_getElem? (i := 222) rfl)
theorem uz_415 : vz_415 ∈ lw_tbl := sub_18 (List.mem_of_getElem? (i := 224) rfl)
theorem uz_416 : vz_416 ∈ lw_tbl := sub_18 (List.mem_of_getElem? (i := 226) rfl)
theorem uz_417 : vz_417 ∈ lw_tbl := sub_18 (List.mem_of_getElem? (i := 228) rfl)
theorem uz_418 : vz_418 ∈ lw_tbl := sub_18 (List.mem_of_getElem? (i := 230) rfl)
theorem uz_419 : vz_419 ∈ lw_tbl := sub_18 (List.mem_of_getElem? (i := 232) rfl)
theorem uz_420 : vz_420 ∈ lw_tbl := sub_18 (List.mem_of_getElem? (i := 234) rfl)
theorem uz_421 : vz_421 ∈ lw_tbl := sub_18 (List.mem_of_getElem? (i := 236) rfl)
theorem uz_422 : vz_422 ∈ lw_tbl := sub_18 (List.mem_of_getElem? (i := 238) rfl)
theorem uz_423 : vz_423 ∈ lw_tbl := sub_19 (List.mem_of_getElem? (i := 0) rfl)
theorem uz_424 : vz_424 ∈ lw_tbl := sub_19 (List.mem_of_getElem? (i := 2) rfl)
theorem uz_425 : vz_425 ∈ lw_tbl := sub_19 (List.mem_of_getElem? (i := 4) rfl)
theorem uz_426 : vz_426 ∈ lw_tbl := sub_19 (List.mem_of_getElem? (i := 6) rfl)
theorem uz_427 : vz_427 ∈ lw_tbl := sub_19 (List.mem_of_getElem? (i := 8) rfl)
theorem uz_428 : vz_428 ∈ lw_tbl := sub_19 (List.mem_of_getElem? (i := 10) rfl)
theorem uz_429 : vz_429 ∈ lw_tbl := sub_19 (List.mem_of_getElem? (i := 12) rfl)
theorem uz_430 : vz_430 ∈ lw_tbl := sub_19 (List.mem_of_getElem? (i := 14) rfl)
theorem uz_431 : vz_431 ∈ lw_tbl := sub_19 (List.mem_of_getElem? (i := 16) rfl)
theorem uz_432 : vz_432 ∈ lw_tbl := sub_19 (List.mem_of_getElem? (i := 18) rfl)
theorem uz_433 : vz_433 ∈ lw_tbl := sub_19 (List.mem_of_getElem? (i := 20) rfl)
theorem uz_434 : vz_434 ∈ lw_tbl := sub_19 (List.mem_of_getElem? (i := 22) rfl)
theorem uz_435 : vz_435 ∈ lw_tbl := sub_19 (List.mem_of_getElem? (i := 24) rfl)
theorem uz_436 : vz_436 ∈ lw_tbl := sub_19 (List.mem_of_getElem? (i := 26) rfl)
theorem uz_437 : vz_437 ∈ lw_tbl := sub_19 (List.mem_of_getElem? (i := 28) rfl)
theorem uz_438 : vz_438 ∈ lw_tbl := sub_19 (List.mem_of_getElem? (i := 30) rfl)
theorem uz_439 : vz_439 ∈ lw_tbl := sub_19 (List.mem_of_getElem? (i := 32) rfl)
theorem uz_440 : vz_440 ∈ lw_tbl := sub_19 (List.mem_of_getElem? (i := 34) rfl)
theorem uz_441 : vz_441 ∈ lw_tbl := sub_19 (List.mem_of_getElem? (i := 36) rfl)
theorem uz_442 : vz_442 ∈ lw_tbl := sub_19 (List.mem_of_getElem? (i := 38) rfl)
theorem uz_443 : vz_443 ∈ lw_tbl := sub_19 (List.mem_of_getElem? (i := 40) rfl)
theorem uz_444 : vz_444 ∈ lw_tbl := sub_19 (List.mem_of_getElem? (i := 42) rfl)
theorem uz_445 : vz_445 ∈ lw_tbl := sub_19 (List.mem_of_getElem? (i := 44) rfl)
theorem uz_446 : vz_446 ∈ lw_tbl := sub_19 (List.mem_of_getElem? (i := 46) rfl)
theorem uz_447 : vz_447 ∈ lw_tbl := sub_19 (List.mem_of_getElem? (i := 48) rfl)
theorem uz_448 : vz_448 ∈ lw_tbl := sub_19 (List.mem_of_getElem? (i := 50) rfl)
theorem uz_449 : vz_449 ∈ lw_tbl := sub_19 (List.mem_of_getElem? (i := 52) rfl)
theorem uz_450 : vz_450 ∈ lw_tbl := sub_1 (List.mem_of_getElem? (i := 40) rfl)
theorem uz_451 : vz_451 ∈ lw_tbl := sub_1 (List.mem_of_getElem? (i := 41) rfl)
theorem uz_452 : vz_452 ∈ lw_tbl := sub_1 (List.mem_of_getElem? (i := 42) rfl)
theorem uz_453 : vz_453 ∈ lw_tbl := sub_1 (List.mem_of_getElem? (i := 82) rfl)
theorem uz_454 : vz_454 ∈ lw_tbl := sub_9 (List.mem_of_getElem? (i := 116) rfl)
theorem uz_455 : vz_455 ∈ lw_tbl := sub_1 (List.mem_of_getElem? (i := 43) rfl)
theorem uz_456 : vz_456 ∈ lw_tbl := sub_1 (List.mem_of_getElem? (i := 44) rfl)
theorem uz_457 : vz_457 ∈ lw_tbl := sub_1 (List.mem_of_getElem? (i := 2) rfl)
theorem uz_458 : vz_458 ∈ lw_tbl := sub_1 (List.mem_of_getElem? (i := 47) rfl)
theorem uz_459 : vz_459 ∈ lw_tbl := sub_1 (List.mem_of_getElem? (i := 46) rfl)
theorem uz_460 : vz_460 ∈ lw_tbl := sub_9 (List.mem_of_getElem? (i := 120) rfl)
theorem uz_461 : vz_461 ∈ lw_tbl := sub_1 (List.mem_of_getElem? (i := 85) rfl)
theorem uz_462 : vz_462 ∈ lw_tbl := sub_1 (List.mem_of_getElem? (i := 86) rfl)
theorem uz_463 : vz_463 ∈ lw_tbl := sub_1 (List.mem_of_getElem? (i := 3) rfl)
theorem uz_464 : vz_464 ∈ lw_tbl := sub_1 (List.mem_of_getElem? (i := 89) rfl)
theorem uz_465 : vz_465 ∈ lw_tbl := sub_1 (List.mem_of_getElem? (i := 88) rfl)
theorem uz_466 : vz_466 ∈ lw_tbl := sub_9 (List.mem_of_getElem? (i := 121) rfl)
theorem uz_467 : vz_467 ∈ lw_tbl := sub_1 (List.mem_of_getElem? (i := 163) rfl)
theorem uz_468 : vz_468 ∈ lw_tbl := sub_1 (List.mem_of_getElem? (i := 164) rfl)
theorem uz_469 : vz_469 ∈ lw_tbl := sub_1 (List.mem_of_getElem? (i := 4) rfl)
theorem uz_470 : vz_470 ∈ lw_tbl := sub_1 (List.mem_of_getElem? (i := 165) rfl)
theorem uz_471 : vz_471 ∈ lw_tbl := sub_1 (List.mem_of_getElem? (i := 167) rfl)
theorem uz_472 : vz_472 ∈ lw_tbl := sub_1 (List.mem_of_getElem? (i := 166) rfl)
theorem uz_473 : vz_473 ∈ lw_tbl := sub_9 (List.mem_of_getElem? (i := 122) rfl)
theorem uz_474 : vz_474 ∈ lw_tbl := sub_2 (List.mem_of_getElem? (i := 50) rfl)
theorem uz_475 : vz_475 ∈ lw_tbl := sub_2 (List.mem_of_getElem? (i := 51) rfl)
theorem uz_476 : vz_476 ∈ lw_tbl := sub_1 (List.mem_of_getElem? (i := 5) rfl)
theorem uz_477 : vz_477 ∈ lw_tbl := sub_2 (List.mem_of_getElem? (i := 52) rfl)
theorem uz_478 : vz_478 ∈ lw_tbl := sub_2 (List.mem_of_getElem? (i := 54) rfl)
theorem uz_479 : vz_479 ∈ lw_tbl := sub_2 (List.mem_of_getElem? (i := 53) rfl)
theorem uz_480 : vz_480 ∈ lw_tbl := sub_9 (List.mem_of_getElem? (i := 123) rfl)
theorem uz_481 : vz_481 ∈ lw_tbl := sub_2 (List.mem_of_getElem? (i := 87) rfl)
theorem uz_482 : vz_482 ∈ lw_tbl := sub_2 (List.mem_of_getElem? (i := 88) rfl)
theorem uz_483 : vz_483 ∈ lw_tbl := sub_1 (List.mem_of_getElem? (i := 6) rfl)
theorem uz_484 : vz_484 ∈ lw_tbl := sub_2 (List.mem_of_getElem? (i := 89) rfl)
theorem uz_485 : vz_485 ∈ lw_tbl := sub_2 (List.mem_of_getElem? (i := 91) rfl)
theorem uz_486 : vz_486 ∈ lw_tbl := sub_2 (List.mem_of_getElem? (i := 90) rfl)
theorem uz_487 : vz_487 ∈ lw_tbl := sub_9 (List.mem_of_getElem? (i := 124) rfl)
theorem uz_488 : vz_488 ∈ lw_tbl := sub_2 (List.mem_of_getElem? (i := 136) rfl)
theorem uz_489 : vz_489 ∈ lw_tbl := sub_2 (List.mem_of_getElem? (i := 137) rfl)
theorem uz_490 : vz_490 ∈ lw_tbl := sub_1 (List.mem_of_getElem? (i := 7) rfl)
theorem uz_491 : vz_491 ∈ lw_tbl := sub_2 (List.mem_of_getElem? (i := 138) rfl)
theorem uz_492 : vz_492 ∈ lw_tbl := sub_2 (List.mem_of_getElem? (i := 140) rfl)
theorem uz_493 : vz_493 ∈ lw_tbl := sub_2 (List.mem_of_getElem? (i := 139) rfl)
theorem uz_494 : vz_494 ∈ lw_tbl := sub_9 (List.mem_of_getElem? (i := 125) rfl)
theorem uz_495 : vz_495 ∈ lw_tbl := sub_2 (List.mem_of_getElem? (i := 188) rfl)
theorem uz_496 : vz_496 ∈ lw_tbl := sub_2 (List.mem_of_getElem? (i := 189) rfl)
theorem uz_497 : vz_497 ∈ lw_tbl := sub_1 (List.mem_of_getElem? (i := 8) rfl)
theorem uz_498 : vz_498 ∈ lw_tbl := sub_2 (List.mem_of_getElem? (i := 190) rfl)
theorem uz_499 : vz_499 ∈ lw_tbl := sub_2 (List.mem_of_getElem? (i := 192) rfl)
theorem uz_500 : vz_500 ∈ lw_tbl := sub_2 (List.mem_of_getElem? (i := 191) rfl)
theorem uz_501 : vz_501 ∈ lw_tbl := sub_9 (List.mem_of_getElem? (i := 126) rfl)
theorem uz_502 : vz_502 ∈ lw_tbl := sub_3 (List.mem_of_getElem? (i := 13) rfl)
theorem uz_503 : vz_503 ∈ lw_tbl := sub_3 (List.mem_of_getElem? (i := 14) rfl)
theorem uz_504 : vz_504 ∈ lw_tbl := sub_1 (List.mem_of_getElem? (i := 9) rfl)
theorem uz_505 : vz_505 ∈ lw_tbl := sub_3 (List.mem_of_getElem? (i := 15) rfl)
theorem uz_506 : vz_506 ∈ lw_tbl := sub_3 (List.mem_of_getElem? (i := 17) rfl)
theorem uz_507 : vz_507 ∈ lw_tbl := sub_3 (List.mem_of_getElem? (i := 16) rfl)
theorem uz_508 : vz_508 ∈ lw_tbl := sub_9 (List.mem_of_getElem? (i := 127) rfl)
theorem uz_509 : vz_509 ∈ lw_tbl := sub_3 (List.mem_of_getElem? (i := 66) rfl)
theorem uz_510 : vz_510 ∈ lw_tbl := sub_3 (List.mem_of_getElem? (i := 67) rfl)
theorem uz_511 : vz_511 ∈ lw_tbl := sub_1 (List.mem_of_getElem? (i := 10) rfl)
theorem uz_512 : vz_512 ∈ lw_tbl := sub_3 (List.mem_of_getElem? (i := 68) rfl)
theorem uz_513 : vz_513 ∈ lw_tbl := sub_3 (List.mem_of_getElem? (i := 70) rfl)
theorem uz_514 : vz_514 ∈ lw_tbl := sub_3 (List.mem_of_getElem? (i := 69) rfl)
theorem uz_515 : vz_515 ∈ lw_tbl := sub_9 (List.mem_of_getElem? (i := 128) rfl)
theorem uz_516 : vz_516 ∈ lw_tbl := sub_4 (List.mem_of_getElem? (i := 189) rfl)
theorem uz_517 : vz_517 ∈ lw_tbl := sub_1 (List.mem_of_getElem? (i := 1) rfl)
theorem uz_518 : vz_518 ∈ lw_tbl := sub_4 (List.mem_of_getElem? (i := 192) rfl)
theorem uz_519 : vz_519 ∈ lw_tbl := sub_4 (List.mem_of_getElem? (i := 191) rfl)
theorem uz_520 : vz_520 ∈ lw_tbl := List.mem_append_left _ (List.mem_map.mpr ⟨_, pv_1 (List.mem_of_getElem? (i := 1) rfl), rfl⟩)
theorem uz_521 : vz_521 ∈ lw_tbl := sub_9 (List.mem_of_getElem? (i := 117) rfl)
theorem uz_522 : vz_522 ∈ lw_tbl := sub_5 (List.mem_of_getElem? (i := 4) rfl)
theorem uz_523 : vz_523 ∈ lw_tbl := sub_5 (List.mem_of_getElem? (i := 7) rfl)
theorem uz_524 : vz_524 ∈ lw_tbl := sub_5 (List.mem_of_getElem? (i := 5) rfl)
theorem uz_525 : vz_525 ∈ lw_tbl := sub_5 (List.mem_of_getElem? (i := 6) rfl)
theorem uz_526 : vz_526 ∈ lw_tbl := sub_5 (List.mem_of_getElem? (i := 20) rfl)
theorem uz_527 : vz_527 ∈ lw_tbl := sub_5 (List.mem_of_getElem? (i := 23) rfl)
theorem uz_528 : vz_528 ∈ lw_tbl := sub_5 (List.mem_of_getElem? (i := 22) rfl)
theorem uz_529 : vz_529 ∈ lw_tbl := List.mem_append_left _ (List.mem_map.mpr ⟨_, pv_1 (List.mem_of_getElem? (i := 4) rfl), rfl⟩)
theorem uz_530 : vz_530 ∈ lw_tbl := sub_9 (List.mem_of_getElem? (i := 112) rfl)
theorem uz_531 : vz_531 ∈ lw_tbl := sub_9 (List.mem_of_getElem? (i := 115) rfl)
theorem uz_532 : vz_532 ∈ lw_tbl := sub_9 (List.mem_of_getElem? (i := 113) rfl)
theorem uz_533 : vz_533 ∈ lw_tbl := sub_9 (List.mem_of_getElem? (i := 114) rfl)
theorem uz_534 : vz_534 ∈ lw_tbl := sub_9 (List.mem_of_getElem? (i := 185) rfl)
theorem uz_535 : vz_535 ∈ lw_tbl := sub_9 (List.mem_of_getElem? (i := 188) rfl)
theorem uz_536 : vz_536 ∈ lw_tbl := sub_9 (List.mem_of_getElem? (i := 186) rfl)
theorem uz_537 : vz_537 ∈ lw_tbl := sub_9 (List.mem_of_getElem? (i := 187) rfl)
theorem uz_538 : vz_538 ∈ lw_tbl := sub_3 (List.mem_of_getElem? (i := 23) rfl)
theorem uz_539 : vz_539 ∈ lw_tbl := sub_9 (List.mem_of_getElem? (i := 189) rfl)
theorem uz_540 : vz_540 ∈ lw_tbl := sub_9 (List.mem_of_getElem? (i := 192) rfl)
theorem uz_541 : vz_541 ∈ lw_tbl := sub_9 (List.mem_of_getElem? (i := 190) rfl)
theorem uz_542 : vz_542 ∈ lw_tbl := sub_9 (List.mem_of_getElem? (i := 191) rfl)
theorem uz_543 : vz_543 ∈ lw_tbl := sub_9 (List.mem_of_getElem? (i := 197) rfl)
theorem uz_544 : vz_544 ∈ lw_tbl := sub_9 (List.mem_of_getElem? (i := 200) rfl)
theorem uz_545 : vz_545 ∈ lw_tbl := sub_9 (List.mem_of_getElem? (i := 198) rfl)
theorem uz_546 : vz_546 ∈ lw_tbl := sub_9 (List.mem_of_getElem? (i := 199) rfl)
theorem uz_547 : vz_547 ∈ lw_tbl := sub_1 (List.mem_of_getElem? (i := 185) rfl)
theorem uz_548 : vz_548 ∈ lw_tbl := sub_1 (List.mem_of_getElem? (i := 193) rfl)
theorem uz_549 : vz_549 ∈ lw_tbl := sub_9 (List.mem_of_getElem? (i := 202) rfl)
theorem uz_550 : vz_550 ∈ lw_tbl := sub_9 (List.mem_of_getElem? (i := 205) rfl)
theorem uz_551 : vz_551 ∈ lw_tbl := sub_9 (List.mem_of_getElem? (i := 203) rfl)
theorem uz_552 : vz_552 ∈ lw_tbl := sub_9 (List.mem_of_getElem? (i := 204) rfl)
theorem uz_553 : vz_553 ∈ lw_tbl := sub_9 (List.mem_of_getElem? (i := 206) rfl)
theorem uz_554 : vz_554 ∈ lw_tbl := sub_9 (List.mem_of_getElem? (i := 99) rfl)
theorem uz_555 : vz_555 ∈ lw_tbl := sub_9 (List.mem_of_getElem? (i := 97) rfl)
theorem uz_556 : vz_556 ∈ lw_tbl := sub_9 (List.mem_of_getElem? (i := 98) rfl)
theorem uz_557 : vz_557 ∈ lw_tbl := sub_1 (List.mem_of_getElem? (i := 203) rfl)
theorem uz_558 : vz_558 ∈ lw_tbl := sub_1 (List.mem_of_getElem? (i := 205) rfl)
theorem uz_559 : vz_559 ∈ lw_tbl := sub_9 (List.mem_of_getElem? (i := 119) rfl)
theorem uz_560 : vz_560 ∈ lw_tbl := sub_5 (List.mem_of_getElem? (i := 37) rfl)
theorem uz_561 : vz_561 ∈ lw_tbl := sub_5 (List.mem_of_getElem? (i := 40) rfl)
theorem uz_562 : vz_562 ∈ lw_tbl := sub_5 (List.mem_of_getElem? (i := 38) rfl)
theorem uz_563 : vz_563 ∈ lw_tbl := sub_5 (List.mem_of_getElem? (i := 39) rfl)
theorem uz_564 : vz_564 ∈ lw_tbl := sub_1 (List.mem_of_getElem? (i := 60) rfl)
theorem uz_565 : vz_565 ∈ lw_tbl := sub_5 (List.mem_of_getElem? (i := 132) rfl)
theorem uz_566 : vz_566 ∈ lw_tbl := sub_5 (List.mem_of_getElem? (i := 135) rfl)
theorem uz_567 : vz_567 ∈ lw_tbl := sub_5 (List.mem_of_getElem? (i := 134) rfl)
theorem uz_568 : vz_568 ∈ lw_tbl := List.mem_append_left _ (List.mem_map.mpr ⟨_, pv_1 (List.mem_of_getElem? (i := 11) rfl), rfl⟩)
theorem uz_569 : vz_569 ∈ lw_tbl := sub_9 (List.mem_of_getElem? (i := 118) rfl)
theorem uz_570 : vz_570 ∈ lw_tbl := sub_9 (List.mem_of_getElem? (i := 160) rfl)
theorem uz_571 : vz_571 ∈ lw_tbl := sub_9 (List.mem_of_getElem? (i := 163) rfl)
theorem uz_572 : vz_572 ∈ lw_tbl := sub_9 (List.mem_of_getElem? (i := 162) rfl)
theorem uz_573 : vz_573 ∈ lw_tbl := List.mem_append_left _ (List.mem_map.mpr ⟨_, pv_10 (List.mem_of_getElem? (i := 2) rfl), rfl⟩)
theorem uz_574 : vz_574 ∈ lw_tbl := sub_1 (List.mem_of_getElem? (i := 143) rfl)
theorem uz_575 : vz_575 ∈ lw_tbl := sub_1 (List.mem_of_getElem? (i := 239) rfl)
theorem uz_576 : vz_576 ∈ lw_tbl := sub_1 (List.mem_of_getElem? (i := 62) rfl)
theorem uz_577 : vz_577 ∈ lw_tbl := sub_2 (List.mem_of_getElem? (i := 213) rfl)
theorem uz_578 : vz_578 ∈ lw_tbl := sub_1 (List.mem_of_getElem? (i := 141) rfl)
theorem uz_579 : vz_579 ∈ lw_tbl := sub_5 (List.mem_of_getElem? (i := 25) rfl)
theorem uz_580 : vz_580 ∈ lw_tbl := sub_5 (List.mem_of_getElem? (i := 28) rfl)
theorem uz_581 : vz_581 ∈ lw_tbl := sub_5 (List.mem_of_getElem? (i := 26) rfl)
theorem uz_582 : vz_582 ∈ lw_tbl := sub_5 (List.mem_of_getElem? (i := 27) rfl)
theorem uz_583 : vz_583 ∈ lw_tbl := sub_5 (List.mem_of_getElem? (i := 33) rfl)
theorem uz_584 : vz_584 ∈ lw_tbl := sub_5 (List.mem_of_getElem? (i := 36) rfl)
theorem uz_585 : vz_585 ∈ lw_tbl := sub_5 (List.mem_of_getElem? (i := 35) rfl)
theorem uz_586 : vz_586 ∈ lw_tbl := List.mem_append_left _ (List.mem_map.mpr ⟨_, pv_1 (List.mem_of_getElem? (i := 5) rfl), rfl⟩)
theorem uz_587 : vz_587 ∈ lw_tbl := sub_5 (List.mem_of_getElem? (i := 136) rfl)
theorem uz_588 : vz_588 ∈ lw_tbl := sub_5 (List.mem_of_getElem? (i := 139) rfl)
theorem uz_589 : vz_589 ∈ lw_tbl := sub_5 (List.mem_of_getElem? (i := 137) rfl)
theorem uz_590 : vz_590 ∈ lw_tbl := sub_5 (List.mem_of_getElem? (i := 138) rfl)
theorem uz_591 : vz_591 ∈ lw_tbl := sub_6 (List.mem_of_getElem? (i := 170) rfl)
theorem uz_592 : vz_592 ∈ lw_tbl := sub_6 (List.mem_of_getElem? (i := 173) rfl)
theorem uz_593 : vz_593 ∈ lw_tbl := sub_6 (List.mem_of_getElem? (i := 171) rfl)
theorem uz_594 : vz_594 ∈ lw_tbl := sub_6 (List.mem_of_getElem? (i := 172) rfl)
theorem uz_595 : vz_595 ∈ lw_tbl := sub_7 (List.mem_of_getElem? (i := 84) rfl)
theorem uz_596 : vz_596 ∈ lw_tbl := sub_7 (List.mem_of_getElem? (i := 87) rfl)
theorem uz_597 : vz_597 ∈ lw_tbl := sub_7 (List.mem_of_getElem? (i := 85) rfl)
theorem uz_598 : vz_598 ∈ lw_tbl := sub_7 (List.mem_of_getElem? (i := 86) rfl)
theorem uz_599 : vz_599 ∈ lw_tbl := sub_7 (List.mem_of_getElem? (i := 88) rfl)
theorem uz_600 : vz_600 ∈ lw_tbl := sub_7 (List.mem_of_getElem? (i := 91) rfl)
theorem uz_601 : vz_601 ∈ lw_tbl := sub_7 (List.mem_of_getElem? (i := 89) rfl)
theorem uz_602 : vz_602 ∈ lw_tbl := sub_7 (List.mem_of_getElem? (i := 90) rfl)
theorem uz_603 : vz_603 ∈ lw_tbl := sub_7 (List.mem_of_getElem? (i := 93) rfl)
theorem uz_604 : vz_604 ∈ lw_tbl := sub_7 (List.mem_of_getElem? (i := 96) rfl)
theorem uz_605 : vz_605 ∈ lw_tbl := sub_7 (List.mem_of_getElem? (i := 94) rfl)
theorem uz_606 : vz_606 ∈ lw_tbl := sub_7 (List.mem_of_getElem? (i := 95) rfl)
theorem uz_607 : vz_607 ∈ lw_tbl := sub_2 (List.mem_of_getElem? (i := 158) rfl)
theorem uz_608 : vz_608 ∈ lw_tbl := sub_2 (List.mem_of_getElem? (i := 63) rfl)
theorem uz_609 : vz_609 ∈ lw_tbl := sub_8 (List.mem_of_getElem? (i := 232) rfl)
theorem uz_610 : vz_610 ∈ lw_tbl := sub_8 (List.mem_of_getElem? (i := 235) rfl)
theorem uz_611 : vz_611 ∈ lw_tbl := sub_8 (List.mem_of_getElem? (i := 233) rfl)
theorem uz_612 : vz_612 ∈ lw_tbl := sub_8 (List.mem_of_getElem? (i := 234) rfl)
theorem uz_613 : vz_613 ∈ lw_tbl := sub_9 (List.mem_of_getElem? (i := 100) rfl)
theorem uz_614 : vz_614 ∈ lw_tbl := sub_9 (List.mem_of_getElem? (i := 103) rfl)
theorem uz_615 : vz_615 ∈ lw_tbl := sub_9 (List.mem_of_getElem? (i := 102) rfl)
theorem uz_616 : vz_616 ∈ lw_tbl := List.mem_append_left _ (List.mem_map.mpr ⟨_, pv_10 (List.mem_of_getElem? (i := 1) rfl), rfl⟩)
theorem uz_617 : vz_617 ∈ lw_tbl := sub_9 (List.mem_of_getElem? (i := 104) rfl)
theorem uz_618 : vz_618 ∈ lw_tbl := sub_9 (List.mem_of_getElem? (i := 107) rfl)
theorem uz_619 : vz_619 ∈ lw_tbl := sub_9 (List.mem_of_getElem? (i := 105) rfl)
theorem uz_620 : vz_620 ∈ lw_tbl := sub_9 (List.mem_of_getElem? (i := 106) rfl)
theorem uz_621 : vz_621 ∈ lw_tbl := sub_9 (List.mem_of_getElem? (i := 172) rfl)
theorem uz_622 : vz_622 ∈ lw_tbl := sub_9 (List.mem_of_getElem? (i := 175) rfl)
theorem uz_623 : vz_623 ∈ lw_tbl := sub_9 (List.mem_of_getElem? (i := 173) rfl)
theorem uz_624 : vz_624 ∈ lw_tbl := sub_9 (List.mem_of_getElem? (i := 174) rfl)
theorem uz_625 : vz_625 ∈ lw_tbl := sub_9 (List.mem_of_getElem? (i := 211) rfl)
theorem uz_626 : vz_626 ∈ lw_tbl := sub_9 (List.mem_of_getElem? (i := 214) rfl)
theorem uz_627 : vz_627 ∈ lw_tbl := sub_9 (List.mem_of_getElem? (i := 213) rfl)
theorem uz_628 : vz_628 ∈ lw_tbl := List.mem_append_left _ (List.mem_map.mpr ⟨_, pv_10 (List.mem_of_getElem? (i := 3) rfl), rfl⟩)
theorem uz_629 : vz_629 ∈ lw_tbl := sub_4 (List.mem_of_getElem? (i := 118) rfl)
theorem uz_630 : vz_630 ∈ lw_tbl := sub_1 (List.mem_of_getElem? (i := 110) rfl)
theorem uz_631 : vz_631 ∈ lw_tbl := sub_1 (List.mem_of_getElem? (i := 177) rfl)
theorem uz_632 : vz_632 ∈ lw_tbl := sub_9 (List.mem_of_getElem? (i := 215) rfl)
theorem uz_633 : vz_633 ∈ lw_tbl := sub_9 (List.mem_of_getElem? (i := 218) rfl)
theorem uz_634 : vz_634 ∈ lw_tbl := sub_9 (List.mem_of_getElem? (i := 216) rfl)
theorem uz_635 : vz_635 ∈ lw_tbl := sub_9 (List.mem_of_getElem? (i := 217) rfl)
theorem uz_636 : vz_636 ∈ lw_tbl := sub_9 (List.mem_of_getElem? (i := 225) rfl)
theorem uz_637 : vz_637 ∈ lw_tbl := sub_7 (List.mem_of_getElem? (i := 100) rfl)
theorem uz_638 : vz_638 ∈ lw_tbl := sub_7 (List.mem_of_getElem? (i := 98) rfl)
theorem uz_639 : vz_639 ∈ lw_tbl := sub_7 (List.mem_of_getElem? (i := 99) rfl)
theorem uz_640 : vz_640 ∈ lw_tbl := sub_9 (List.mem_of_getElem? (i := 226) rfl)
theorem uz_641 : vz_641 ∈ lw_tbl := sub_7 (List.mem_of_getElem? (i := 108) rfl)
theorem uz_642 : vz_642 ∈ lw_tbl := sub_7 (List.mem_of_getElem? (i := 106) rfl)
theorem uz_643 : vz_643 ∈ lw_tbl := sub_7 (List.mem_of_getElem? (i := 107) rfl)
theorem uz_644 : vz_644 ∈ lw_tbl := sub_9 (List.mem_of_getElem? (i := 227) rfl)
theorem uz_645 : vz_645 ∈ lw_tbl := sub_9 (List.mem_of_getElem? (i := 230) rfl)
theorem uz_646 : vz_646 ∈ lw_tbl := sub_9 (List.mem_of_getElem? (i := 228) rfl)
theorem uz_647 : vz_647 ∈ lw_tbl := sub_9 (List.mem_of_getElem? (i := 229) rfl)
theorem uz_648 : vz_648 ∈ lw_tbl := sub_10 (List.mem_of_getElem? (i := 20) rfl)
theorem uz_649 : vz_649 ∈ lw_tbl := sub_10 (List.mem_of_getElem? (i := 23) rfl)
theorem uz_650 : vz_650 ∈ lw_tbl := sub_10 (List.mem_of_getElem? (i := 21) rfl)
theorem uz_651 : vz_651 ∈ lw_tbl := sub_10 (List.mem_of_getElem? (i := 22) rfl)
theorem uz_652 : vz_652 ∈ lw_tbl := sub_4 (List.mem_of_getElem? (i := 193) rfl)
theorem uz_653 : vz_653 ∈ lw_tbl := sub_1 (List.mem_of_getElem? (i := 15) rfl)
theorem uz_654 : vz_654 ∈ lw_tbl := sub_4 (List.mem_of_getElem? (i := 196) rfl)
theorem uz_655 : vz_655 ∈ lw_tbl := sub_4 (List.mem_of_getElem? (i := 194) rfl)
theorem uz_656 : vz_656 ∈ lw_tbl := sub_4 (List.mem_of_getElem? (i := 195) rfl)
theorem uz_657 : vz_657 ∈ lw_tbl := sub_4 (List.mem_of_getElem? (i := 203) rfl)
theorem uz_658 : vz_658 ∈ lw_tbl := sub_4 (List.mem_of_getElem? (i := 204) rfl)
theorem uz_659 : vz_659 ∈ lw_tbl := sub_1 (List.mem_of_getElem? (i := 16) rfl)
theorem uz_660 : vz_660 ∈ lw_tbl := sub_4 (List.mem_of_getElem? (i := 205) rfl)
theorem uz_661 : vz_661 ∈ lw_tbl := sub_4 (List.mem_of_getElem? (i := 206) rfl)
theorem uz_662 : vz_662 ∈ lw_tbl := sub_4 (List.mem_of_getElem? (i := 209) rfl)
theorem uz_663 : vz_663 ∈ lw_tbl := sub_4 (List.mem_of_getElem? (i := 207) rfl)
theorem uz_664 : vz_664 ∈ lw_tbl := sub_4 (List.mem_of_getElem? (i := 208) rfl)
theorem uz_665 : vz_665 ∈ lw_tbl := sub_2 (List.mem_of_getElem? (i := 92) rfl)
theorem uz_666 : vz_666 ∈ lw_tbl := sub_1 (List.mem_of_getElem? (i := 83) rfl)
theorem uz_667 : vz_667 ∈ lw_tbl := sub_2 (List.mem_of_getElem? (i := 97) rfl)
theorem uz_668 : vz_668 ∈ lw_tbl := sub_2 (List.mem_of_getElem? (i := 98) rfl)
theorem uz_669 : vz_669 ∈ lw_tbl := sub_2 (List.mem_of_getElem? (i := 99) rfl)
theorem uz_670 : vz_670 ∈ lw_tbl := sub_2 (List.mem_of_getElem? (i := 102) rfl)
theorem uz_671 : vz_671 ∈ lw_tbl := sub_2 (List.mem_of_getElem? (i := 103) rfl)
theorem uz_672 : vz_672 ∈ lw_tbl := sub_2 (List.mem_of_getElem? (i := 100) rfl)
theorem uz_673 : vz_673 ∈ lw_tbl := sub_2 (List.mem_of_getElem? (i := 95) rfl)
theorem uz_674 : vz_674 ∈ lw_tbl := sub_2 (List.mem_of_getElem? (i := 93) rfl)
theorem uz_675 : vz_675 ∈ lw_tbl := sub_1 (List.mem_of_getElem? (i := 107) rfl)
theorem uz_676 : vz_676 ∈ lw_tbl := sub_1 (List.mem_of_getElem? (i := 96) rfl)
theorem uz_677 : vz_677 ∈ lw_tbl := sub_1 (List.mem_of_getElem? (i := 115) rfl)
theorem uz_678 : vz_678 ∈ lw_tbl := sub_2 (List.mem_of_getElem? (i := 94) rfl)
theorem uz_679 : vz_679 ∈ lw_tbl := sub_1 (List.mem_of_getElem? (i := 220) rfl)
theorem uz_680 : vz_680 ∈ lw_tbl := sub_1 (List.mem_of_getElem? (i := 121) rfl)
theorem uz_681 : vz_681 ∈ lw_tbl := sub_1 (List.mem_of_getElem? (i := 127) rfl)
theorem uz_682 : vz_682 ∈ lw_tbl := sub_6 (List.mem_of_getElem? (i := 184) rfl)
theorem uz_683 : vz_683 ∈ lw_tbl := sub_6 (List.mem_of_getElem? (i := 187) rfl)
theorem uz_684 : vz_684 ∈ lw_tbl := sub_6 (List.mem_of_getElem? (i := 185) rfl)
theorem uz_685 : vz_685 ∈ lw_tbl := sub_6 (List.mem_of_getElem? (i := 186) rfl)
theorem uz_686 : vz_686 ∈ lw_tbl := sub_6 (List.mem_of_getElem? (i := 218) rfl)
theorem uz_687 : vz_687 ∈ lw_tbl := sub_6 (List.mem_of_getElem? (i := 221) rfl)
theorem uz_688 : vz_688 ∈ lw_tbl := sub_6 (List.mem_of_getElem? (i := 220) rfl)
theorem uz_689 : vz_689 ∈ lw_tbl := List.mem_append_left _ (List.mem_map.mpr ⟨_, pv_5 (List.mem_of_getElem? (i := 2) rfl), rfl⟩)
theorem uz_690 : vz_690 ∈ lw_tbl := sub_1 (List.mem_of_getElem? (i := 136) rfl)
theorem uz_691 : vz_691 ∈ lw_tbl := sub_6 (List.mem_of_getElem? (i := 226) rfl)
theorem uz_692 : vz_692 ∈ lw_tbl := sub_6 (List.mem_of_getElem? (i := 229) rfl)
theorem uz_693 : vz_693 ∈ lw_tbl := sub_6 (List.mem_of_getElem? (i := 228) rfl)
theorem uz_694 : vz_694 ∈ lw_tbl := List.mem_append_left _ (List.mem_map.mpr ⟨_, pv_5 (List.mem_of_getElem? (i := 3) rfl), rfl⟩)
theorem uz_695 : vz_695 ∈ lw_tbl := sub_7 (List.mem_of_getElem? (i := 27) rfl)
theorem uz_696 : vz_696 ∈ lw_tbl := sub_7 (List.mem_of_getElem? (i := 30) rfl)
theorem uz_697 : vz_697 ∈ lw_tbl := sub_7 (List.mem_of_getElem? (i := 29) rfl)
theorem uz_698 : vz_698 ∈ lw_tbl := List.mem_append_left _ (List.mem_map.mpr ⟨_, pv_5 (List.mem_of_getElem? (i := 13) rfl), rfl⟩)
theorem uz_699 : vz_699 ∈ lw_tbl := sub_7 (List.mem_of_getElem? (i := 39) rfl)
theorem uz_700 : vz_700 ∈ lw_tbl := sub_7 (List.mem_of_getElem? (i := 42) rfl)
theorem uz_701 : vz_701 ∈ lw_tbl := sub_7 (List.mem_of_getElem? (i := 41) rfl)
theorem uz_702 : vz_702 ∈ lw_tbl := List.mem_append_left _ (List.mem_map.mpr ⟨_, pv_6 (List.mem_of_getElem? (i := 0) rfl), rfl⟩)
theorem uz_703 : vz_703 ∈ lw_tbl := sub_7 (List.mem_of_getElem? (i := 23) rfl)
theorem uz_704 : vz_704 ∈ lw_tbl := sub_7 (List.mem_of_getElem? (i := 26) rfl)
theorem uz_705 : vz_705 ∈ lw_tbl := sub_7 (List.mem_of_getElem? (i := 25) rfl)
theorem uz_706 : vz_706 ∈ lw_tbl := List.mem_append_left _ (List.mem_map.mpr ⟨_, pv_5 (List.mem_of_getElem? (i := 12) rfl), rfl⟩)
theorem uz_707 : vz_707 ∈ lw_tbl := sub_7 (List.mem_of_getElem? (i := 43) rfl)
theorem uz_708 : vz_708 ∈ lw_tbl := sub_7 (List.mem_of_getElem? (i := 46) rfl)
theorem uz_709 : vz_709 ∈ lw_tbl := sub_7 (List.mem_of_getElem? (i := 45) rfl)
theorem uz_710 : vz_710 ∈ lw_tbl := List.mem_append_left _ (List.mem_map.mpr ⟨_, pv_6 (List.mem_of_getElem? (i := 1) rfl), rfl⟩)
theorem uz_711 : vz_711 ∈ lw_tbl := sub_7 (List.mem_of_getElem? (i := 51) rfl)
theorem uz_712 : vz_712 ∈ lw_tbl := sub_7 (List.mem_of_getElem? (i := 54) rfl)
theorem uz_713 : vz_713 ∈ lw_tbl := sub_7 (List.mem_of_getElem? (i := 53) rfl)
theorem uz_714 : vz_714 ∈ lw_tbl := List.mem_append_left _ (List.mem_map.mpr ⟨_, pv_6 (List.mem_of_getElem? (i := 3) rfl), rfl⟩)
theorem uz_715 : vz_715 ∈ lw_tbl := sub_7 (List.mem_of_getElem? (i := 76) rfl)
theorem uz_716 : vz_716 ∈ lw_tbl := sub_7 (List.mem_of_getElem? (i := 79) rfl)
theorem uz_717 : vz_717 ∈ lw_tbl := sub_7 (List.mem_of_getElem? (i := 78) rfl)
theorem uz_718 : vz_718 ∈ lw_tbl := List.mem_append_left _ (List.mem_map.mpr ⟨_, pv_6 (List.mem_of_getElem? (i := 9) rfl), rfl⟩)
theorem uz_719 : vz_719 ∈ lw_tbl := sub_2 (List.mem_of_getElem? (i := 106) rfl)
theorem uz_720 : vz_720 ∈ lw_tbl := sub_6 (List.mem_of_getElem? (i := 238) rfl)
theorem uz_721 : vz_721 ∈ lw_tbl := sub_7 (List.mem_of_getElem? (i := 1) rfl)
theorem uz_722 : vz_722 ∈ lw_tbl := sub_7 (List.mem_of_getElem? (i := 0) rfl)
theorem uz_723 : vz_723 ∈ lw_tbl := List.mem_append_left _ (List.mem_map.mpr ⟨_, pv_5 (List.mem_of_getElem? (i := 6) rfl), rfl⟩)
theorem uz_724 : vz_724 ∈ lw_tbl := sub_1 (List.mem_of_getElem? (i := 192) rfl)
theorem uz_725 : vz_725 ∈ lw_tbl := sub_1 (List.mem_of_getElem? (i := 188) rfl)
theorem uz_726 : vz_726 ∈ lw_tbl := sub_1 (List.mem_of_getElem? (i := 184) rfl)
theorem uz_727 : vz_727 ∈ lw_tbl := sub_1 (List.mem_of_getElem? (i := 180) rfl)
theorem uz_728 : vz_728 ∈ lw_tbl := sub_2 (List.mem_of_getElem? (i := 101) rfl)
theorem uz_729 : vz_729 ∈ lw_tbl := sub_6 (List.mem_of_getElem? (i := 196) rfl)
theorem uz_730 : vz_730 ∈ lw_tbl := sub_6 (List.mem_of_getElem? (i := 214) rfl)
theorem uz_731 : vz_731 ∈ lw_tbl := sub_6 (List.mem_of_getElem? (i := 217) rfl)
theorem uz_732 : vz_732 ∈ lw_tbl := sub_6 (List.mem_of_getElem? (i := 216) rfl)
theorem uz_733 : vz_733 ∈ lw_tbl := List.mem_append_left _ (List.mem_map.mpr ⟨_, pv_5 (List.mem_of_getElem? (i := 1) rfl), rfl⟩)
theorem uz_734 : vz_734 ∈ lw_tbl := sub_1 (List.mem_of_getElem? (i := 234) rfl)
theorem uz_735 : vz_735 ∈ lw_tbl := sub_1 (List.mem_of_getElem? (i := 229) rfl)
theorem uz_736 : vz_736 ∈ lw_tbl := sub_6 (List.mem_of_getElem? (i := 174) rfl)
theorem uz_737 : vz_737 ∈ lw_tbl := sub_6 (List.mem_of_getElem? (i := 177) rfl)
theorem uz_738 : vz_738 ∈ lw_tbl := sub_6 (List.mem_of_getElem? (i := 176) rfl)
theorem uz_739 : vz_739 ∈ lw_tbl := List.mem_append_left _ (List.mem_map.mpr ⟨_, pv_4 (List.mem_of_getElem? (i := 12) rfl), rfl⟩)
theorem uz_740 : vz_740 ∈ lw_tbl := sub_6 (List.mem_of_getElem? (i := 180) rfl)
theorem uz_741 : vz_741 ∈ lw_tbl := sub_6 (List.mem_of_getElem? (i := 183) rfl)
theorem uz_742 : vz_742 ∈ lw_tbl := sub_6 (List.mem_of_getElem? (i := 182) rfl)
theorem uz_743 : vz_743 ∈ lw_tbl := List.mem_append_left _ (List.mem_map.mpr ⟨_, pv_4 (List.mem_of_getElem? (i := 13) rfl), rfl⟩)
theorem uz_744 : vz_744 ∈ lw_tbl := sub_6 (List.mem_of_getElem? (i := 201) rfl)
theorem uz_745 : vz_745 ∈ lw_tbl := sub_6 (List.mem_of_getElem? (i := 204) rfl)
theorem uz_746 : vz_746 ∈ lw_tbl := sub_6 (List.mem_of_getElem? (i := 203) rfl)
theorem uz_747 : vz_747 ∈ lw_tbl := List.mem_append_left _ (List.mem_map.mpr ⟨_, pv_4 (List.mem_of_getElem? (i := 15) rfl), rfl⟩)
theorem uz_748 : vz_748 ∈ lw_tbl := sub_6 (List.mem_of_getElem? (i := 210) rfl)
theorem uz_749 : vz_749 ∈ lw_tbl := sub_6 (List.mem_of_getElem? (i := 213) rfl)
theorem uz_750 : vz_750 ∈ lw_tbl := sub_6 (List.mem_of_getElem? (i := 212) rfl)
theorem uz_751 : vz_751 ∈ lw_tbl := List.mem_append_left _ (List.mem_map.mpr ⟨_, pv_5 (List.mem_of_getElem? (i := 0) rfl), rfl⟩)
theorem uz_752 : vz_752 ∈ lw_tbl := sub_6 (List.mem_of_getElem? (i := 230) rfl)
theorem uz_753 : vz_753 ∈ lw_tbl := sub_6 (List.mem_of_getElem? (i := 233) rfl)
theorem uz_754 : vz_754 ∈ lw_tbl := sub_6 (List.mem_of_getElem? (i := 232) rfl)
theorem uz_755 : vz_755 ∈ lw_tbl := List.mem_append_left _ (List.mem_map.mpr ⟨_, pv_5 (List.mem_of_getElem? (i := 4) rfl), rfl⟩)
theorem uz_756 : vz_756 ∈ lw_tbl := sub_6 (List.mem_of_getElem? (i := 234) rfl)
theorem uz_757 : vz_757 ∈ lw_tbl := sub_6 (List.mem_of_getElem? (i := 237) rfl)
theorem uz_758 : vz_758 ∈ lw_tbl := sub_6 (List.mem_of_getElem? (i := 236) rfl)
theorem uz_759 : vz_759 ∈ lw_tbl := List.mem_append_left _ (List.mem_map.mpr ⟨_, pv_5 (List.mem_of_getElem? (i := 5) rfl), rfl⟩)
theorem uz_760 : vz_760 ∈ lw_tbl := sub_7 (List.mem_of_getElem? (i := 3) rfl)
theorem uz_761 : vz_761 ∈ lw_tbl := sub_7 (List.mem_of_getElem? (i := 6) rfl)
theorem uz_762 : vz_762 ∈ lw_tbl := sub_7 (List.mem_of_getElem? (i := 5) rfl)
theorem uz_763 : vz_763 ∈ lw_tbl := List.mem_append_left _ (List.mem_map.mpr ⟨_, pv_5 (List.mem_of_getElem? (i := 7) rfl), rfl⟩)
theorem uz_764 : vz_764 ∈ lw_tbl := sub_7 (List.mem_of_getElem? (i := 7) rfl)
theorem uz_765 : vz_765 ∈ lw_tbl := sub_7 (List.mem_of_getElem? (i := 10) rfl)
theorem uz_766 : vz_766 ∈ lw_tbl := sub_7 (List.mem_of_getElem? (i := 9) rfl)
theorem uz_767 : vz_767 ∈ lw_tbl := List.mem_append_left _ (List.mem_map.mpr ⟨_, pv_5 (List.mem_of_getElem? (i := 8) rfl), rfl⟩)
theorem uz_768 : vz_768 ∈ lw_tbl := sub_7 (List.mem_of_getElem? (i := 35) rfl)
theorem uz_769 : vz_769 ∈ lw_tbl := sub_7 (List.mem_of_getElem? (i := 38) rfl)
theorem uz_770 : vz_770 ∈ lw_tbl := sub_7 (List.mem_of_getElem? (i := 37) rfl)
theorem uz_771 : vz_771 ∈ lw_tbl := List.mem_append_left _ (List.mem_map.mpr ⟨_, pv_5 (List.mem_of_getElem? (i := 15) rfl), rfl⟩)
theorem uz_772 : vz_772 ∈ lw_tbl := sub_7 (List.mem_of_getElem? (i := 15) rfl)
theorem uz_773 : vz_773 ∈ lw_tbl := sub_7 (List.mem_of_getElem? (i := 18) rfl)
theorem uz_774 : vz_774 ∈ lw_tbl := sub_7 (List.mem_of_getElem? (i := 17) rfl)
theorem uz_775 : vz_775 ∈ lw_tbl := List.mem_append_left _ (List.mem_map.mpr ⟨_, pv_5 (List.mem_of_getElem? (i := 10) rfl), rfl⟩)
theorem uz_776 : vz_776 ∈ lw_tbl := sub_7 (List.mem_of_getElem? (i := 19) rfl)
theorem uz_777 : vz_777 ∈ lw_tbl := sub_7 (List.mem_of_getElem? (i := 22) rfl)
theorem uz_778 : vz_778 ∈ lw_tbl := sub_7 (List.mem_of_getElem? (i := 21) rfl)
theorem uz_779 : vz_779 ∈ lw_tbl := List.mem_append_left _ (List.mem_map.mpr ⟨_, pv_5 (List.mem_of_getElem? (i := 11) rfl), rfl⟩)
theorem uz_780 : vz_780 ∈ lw_tbl := sub_2 (List.mem_of_getElem? (i := 104) rfl)
theorem uz_781 : vz_781 ∈ lw_tbl := sub_7 (List.mem_of_getElem? (i := 59) rfl)
theorem uz_782 : vz_782 ∈ lw_tbl := sub_7 (List.mem_of_getElem? (i := 62) rfl)
theorem uz_783 : vz_783 ∈ lw_tbl := sub_7 (List.mem_of_getElem? (i := 61) rfl)
theorem uz_784 : vz_784 ∈ lw_tbl := List.mem_append_left _ (List.mem_map.mpr ⟨_, pv_6 (List.mem_of_getElem? (i := 5) rfl), rfl⟩)
theorem uz_785 : vz_785 ∈ lw_tbl := sub_7 (List.mem_of_getElem? (i := 63) rfl)
theorem uz_786 : vz_786 ∈ lw_tbl := sub_7 (List.mem_of_getElem? (i := 66) rfl)
theorem uz_787 : vz_787 ∈ lw_tbl := sub_7 (List.mem_of_getElem? (i := 65) rfl)
theorem uz_788 : vz_788 ∈ lw_tbl := List.mem_append_left _ (List.mem_map.mpr ⟨_, pv_6 (List.mem_of_getElem? (i := 6) rfl), rfl⟩)
theorem uz_789 : vz_789 ∈ lw_tbl := sub_6 (List.mem_of_getElem? (i := 222) rfl)
theorem uz_790 : vz_790 ∈ lw_tbl := sub_6 (List.mem_of_getElem? (i := 225) rfl)
theorem uz_791 : vz_791 ∈ lw_tbl := sub_6 (List.mem_of_getElem? (i := 223) rfl)
theorem uz_792 : vz_792 ∈ lw_tbl := sub_6 (List.mem_of_getElem? (i := 224) rfl)
theorem uz_793 : vz_793 ∈ lw_tbl := sub_6 (List.mem_of_getElem? (i := 188) rfl)
theorem uz_794 : vz_794 ∈ lw_tbl := sub_6 (List.mem_of_getElem? (i := 191) rfl)
theorem uz_795 : vz_795 ∈ lw_tbl := sub_6 (List.mem_of_getElem? (i := 189) rfl)
theorem uz_796 : vz_796 ∈ lw_tbl := sub_6 (List.mem_of_getElem? (i := 190) rfl)
theorem uz_797 : vz_797 ∈ lw_tbl := sub_6 (List.mem_of_getElem? (i := 197) rfl)
theorem uz_798 : vz_798 ∈ lw_tbl := sub_6 (List.mem_of_getElem? (i := 200) rfl)
theorem uz_799 : vz_799 ∈ lw_tbl := sub_6 (List.mem_of_getElem? (i := 198) rfl)
theorem uz_800 : vz_800 ∈ lw_tbl := sub_6 (List.mem_of_getElem? (i := 199) rfl)
theorem uz_801 : vz_801 ∈ lw_tbl := sub_6 (List.mem_of_getElem? (i := 205) rfl)
theorem uz_802 : vz_802 ∈ lw_tbl := sub_6 (List.mem_of_getElem? (i := 208) rfl)
theorem uz_803 : vz_803 ∈ lw_tbl := sub_6 (List.mem_of_getElem? (i := 206) rfl)
theorem uz_804 : vz_804 ∈ lw_tbl := sub_6 (List.mem_of_getElem? (i := 207) rfl)
theorem uz_805 : vz_805 ∈ lw_tbl := sub_2 (List.mem_of_getElem? (i := 96) rfl)
theorem uz_806 : vz_806 ∈ lw_tbl := sub_1 (List.mem_of_getElem? (i := 98) rfl)
theorem uz_807 : vz_807 ∈ lw_tbl := sub_7 (List.mem_of_getElem? (i := 75) rfl)
theorem uz_808 : vz_808 ∈ lw_tbl := sub_6 (List.mem_of_getElem? (i := 9) rfl)
theorem uz_809 : vz_809 ∈ lw_tbl := sub_6 (List.mem_of_getElem? (i := 7) rfl)
theorem uz_810 : vz_810 ∈ lw_tbl := sub_6 (List.mem_of_getElem? (i := 8) rfl)
theorem uz_811 : vz_811 ∈ lw_tbl := sub_6 (List.mem_of_getElem? (i := 178) rfl)
theorem uz_812 : vz_812 ∈ lw_tbl := sub_7 (List.mem_of_getElem? (i := 92) rfl)
theorem uz_813 : vz_813 ∈ lw_tbl := sub_7 (List.mem_of_getElem? (i := 55) rfl)
theorem uz_814 : vz_814 ∈ lw_tbl := sub_7 (List.mem_of_getElem? (i := 58) rfl)
theorem uz_815 : vz_815 ∈ lw_tbl := sub_7 (List.mem_of_getElem? (i := 57) rfl)
theorem uz_816 : vz_816 ∈ lw_tbl := List.mem_append_left _ (List.mem_map.mpr ⟨_, pv_6 (List.mem_of_getElem? (i := 4) rfl), rfl⟩)
theorem uz_817 : vz_817 ∈ lw_tbl := sub_2 (List.mem_of_getElem? (i := 105) rfl)
theorem uz_818 : vz_818 ∈ lw_tbl := sub_1 (List.mem_of_getElem? (i := 90) rfl)
theorem uz_819 : vz_819 ∈ lw_tbl := sub_1 (List.mem_of_getElem? (i := 91) rfl)
theorem uz_820 : vz_820 ∈ lw_tbl := sub_1 (List.mem_of_getElem? (i := 97) rfl)
theorem uz_821 : vz_821 ∈ lw_tbl := sub_1 (List.mem_of_getElem? (i := 103) rfl)
theorem uz_822 : vz_822 ∈ lw_tbl := sub_1 (List.mem_of_getElem? (i := 111) rfl)
theorem uz_823 : vz_823 ∈ lw_tbl := sub_1 (List.mem_of_getElem? (i := 118) rfl)
theorem uz_824 : vz_824 ∈ lw_tbl := sub_1 (List.mem_of_getElem? (i := 138) rfl)
theorem uz_825 : vz_825 ∈ lw_tbl := sub_1 (List.mem_of_getElem? (i := 131) rfl)
theorem uz_826 : vz_826 ∈ lw_tbl := sub_2 (List.mem_of_getElem? (i := 141) rfl)
theorem uz_827 : vz_827 ∈ lw_tbl := sub_2 (List.mem_of_getElem? (i := 142) rfl)
theorem uz_828 : vz_828 ∈ lw_tbl := sub_1 (List.mem_of_getElem? (i := 84) rfl)
theorem uz_829 : vz_829 ∈ lw_tbl := sub_2 (List.mem_of_getElem? (i := 145) rfl)
theorem uz_830 : vz_830 ∈ lw_tbl := sub_2 (List.mem_of_getElem? (i := 149) rfl)
theorem uz_831 : vz_831 ∈ lw_tbl := sub_2 (List.mem_of_getElem? (i := 151) rfl)
theorem uz_832 : vz_832 ∈ lw_tbl := sub_2 (List.mem_of_getElem? (i := 152) rfl)
theorem uz_833 : vz_833 ∈ lw_tbl := sub_2 (List.mem_of_getElem? (i := 143) rfl)
theorem uz_834 : vz_834 ∈ lw_tbl := sub_7 (List.mem_of_getElem? (i := 117) rfl)
theorem uz_835 : vz_835 ∈ lw_tbl := sub_7 (List.mem_of_getElem? (i := 120) rfl)
theorem uz_836 : vz_836 ∈ lw_tbl := sub_7 (List.mem_of_getElem? (i := 119) rfl)
theorem uz_837 : vz_837 ∈ lw_tbl := List.mem_append_left _ (List.mem_map.mpr ⟨_, pv_6 (List.mem_of_getElem? (i := 14) rfl), rfl⟩)
theorem uz_838 : vz_838 ∈ lw_tbl := sub_8 (List.mem_of_getElem? (i := 115) rfl)
theorem uz_839 : vz_839 ∈ lw_tbl := sub_8 (List.mem_of_getElem? (i := 118) rfl)
theorem uz_840 : vz_840 ∈ lw_tbl := sub_8 (List.mem_of_getElem? (i := 117) rfl)
theorem uz_841 : vz_841 ∈ lw_tbl := List.mem_append_left _ (List.mem_map.mpr ⟨_, pv_6 (List.mem_of_getElem? (i := 15) rfl), rfl⟩)
theorem uz_842 : vz_842 ∈ lw_tbl := sub_8 (List.mem_of_getElem? (i := 141) rfl)
theorem uz_843 : vz_843 ∈ lw_tbl := sub_8 (List.mem_of_getElem? (i := 144) rfl)
theorem uz_844 : vz_844 ∈ lw_tbl := sub_8 (List.mem_of_getElem? (i := 143) rfl)
theorem uz_845 : vz_845 ∈ lw_tbl := List.mem_append_left _ (List.mem_map.mpr ⟨_, pv_7 (List.mem_of_getElem? (i := 5) rfl), rfl⟩)
theorem uz_846 : vz_846 ∈ lw_tbl := sub_8 (List.mem_of_getElem? (i := 200) rfl)
theorem uz_847 : vz_847 ∈ lw_tbl := sub_8 (List.mem_of_getElem? (i := 203) rfl)
theorem uz_848 : vz_848 ∈ lw_tbl := sub_8 (List.mem_of_getElem? (i := 202) rfl)
theorem uz_849 : vz_849 ∈ lw_tbl := List.mem_append_left _ (List.mem_map.mpr ⟨_, pv_8 (List.mem_of_getElem? (i := 2) rfl), rfl⟩)
theorem uz_850 : vz_850 ∈ lw_tbl := sub_2 (List.mem_of_getElem? (i := 146) rfl)
theorem uz_851 : vz_851 ∈ lw_tbl := sub_2 (List.mem_of_getElem? (i := 150) rfl)
theorem uz_852 : vz_852 ∈ lw_tbl := sub_2 (List.mem_of_getElem? (i := 148) rfl)
theorem uz_853 : vz_853 ∈ lw_tbl := sub_2 (List.mem_of_getElem? (i := 157) rfl)
theorem uz_854 : vz_854 ∈ lw_tbl := sub_9 (List.mem_of_getElem? (i := 239) rfl)
theorem uz_855 : vz_855 ∈ lw_tbl := sub_9 (List.mem_of_getElem? (i := 222) rfl)
theorem uz_856 : vz_856 ∈ lw_tbl := sub_9 (List.mem_of_getElem? (i := 220) rfl)
theorem uz_857 : vz_857 ∈ lw_tbl := sub_9 (List.mem_of_getElem? (i := 221) rfl)
theorem uz_858 : vz_858 ∈ lw_tbl := sub_2 (List.mem_of_getElem? (i := 144) rfl)
theorem uz_859 : vz_859 ∈ lw_tbl := sub_1 (List.mem_of_getElem? (i := 223) rfl)
theorem uz_860 : vz_860 ∈ lw_tbl := sub_1 (List.mem_of_getElem? (i := 217) rfl)
theorem uz_861 : vz_861 ∈ lw_tbl := sub_8 (List.mem_of_getElem? (i := 174) rfl)
theorem uz_862 : vz_862 ∈ lw_tbl := sub_8 (List.mem_of_getElem? (i := 112) rfl)
theorem uz_863 : vz_863 ∈ lw_tbl := sub_8 (List.mem_of_getElem? (i := 114) rfl)
theorem uz_864 : vz_864 ∈ lw_tbl := sub_8 (List.mem_of_getElem? (i := 113) rfl)
theorem uz_865 : vz_865 ∈ lw_tbl := sub_2 (List.mem_of_getElem? (i := 153) rfl)
theorem uz_866 : vz_866 ∈ lw_tbl := sub_1 (List.mem_of_getElem? (i := 114) rfl)
theorem uz_867 : vz_867 ∈ lw_tbl := sub_1 (List.mem_of_getElem? (i := 209) rfl)
theorem uz_868 : vz_868 ∈ lw_tbl := sub_1 (List.mem_of_getElem? (i := 226) rfl)
theorem uz_869 : vz_869 ∈ lw_tbl := sub_1 (List.mem_of_getElem? (i := 122) rfl)
theorem uz_870 : vz_870 ∈ lw_tbl := sub_7 (List.mem_of_getElem? (i := 109) rfl)
theorem uz_871 : vz_871 ∈ lw_tbl := sub_7 (List.mem_of_getElem? (i := 112) rfl)
theorem uz_872 : vz_872 ∈ lw_tbl := sub_7 (List.mem_of_getElem? (i := 111) rfl)
theorem uz_873 : vz_873 ∈ lw_tbl := List.mem_append_left _ (List.mem_map.mpr ⟨_, pv_6 (List.mem_of_getElem? (i := 12) rfl), rfl⟩)
theorem uz_874 : vz_874 ∈ lw_tbl := sub_8 (List.mem_of_getElem? (i := 120) rfl)
theorem uz_875 : vz_875 ∈ lw_tbl := sub_8 (List.mem_of_getElem? (i := 123) rfl)
theorem uz_876 : vz_876 ∈ lw_tbl := sub_8 (List.mem_of_getElem? (i := 122) rfl)
theorem uz_877 : vz_877 ∈ lw_tbl := List.mem_append_left _ (List.mem_map.mpr ⟨_, pv_7 (List.mem_of_getElem? (i := 0) rfl), rfl⟩)
theorem uz_878 : vz_878 ∈ lw_tbl := sub_1 (List.mem_of_getElem? (i := 135) rfl)
theorem uz_879 : vz_879 ∈ lw_tbl := sub_1 (List.mem_of_getElem? (i := 95) rfl)
theorem uz_880 : vz_880 ∈ lw_tbl := sub_1 (List.mem_of_getElem? (i := 130) rfl)
theorem uz_881 : vz_881 ∈ lw_tbl := sub_1 (List.mem_of_getElem? (i := 106) rfl)
theorem uz_882 : vz_882 ∈ lw_tbl := sub_7 (List.mem_of_getElem? (i := 113) rfl)
theorem uz_883 : vz_883 ∈ lw_tbl := sub_7 (List.mem_of_getElem? (i := 116) rfl)
theorem uz_884 : vz_884 ∈ lw_tbl := sub_7 (List.mem_of_getElem? (i := 115) rfl)
theorem uz_885 : vz_885 ∈ lw_tbl := List.mem_append_left _ (List.mem_map.mpr ⟨_, pv_6 (List.mem_of_getElem? (i := 13) rfl), rfl⟩)
theorem uz_886 : vz_886 ∈ lw_tbl := sub_8 (List.mem_of_getElem? (i := 124) rfl)
theorem uz_887 : vz_887 ∈ lw_tbl := sub_2 (List.mem_of_getElem? (i := 147) rfl)
theorem uz_888 : vz_888 ∈ lw_tbl := sub_8 (List.mem_of_getElem? (i := 177) rfl)
theorem uz_889 : vz_889 ∈ lw_tbl := sub_8 (List.mem_of_getElem? (i := 170) rfl)
theorem uz_890 : vz_890 ∈ lw_tbl := sub_8 (List.mem_of_getElem? (i := 173) rfl)
theorem uz_891 : vz_891 ∈ lw_tbl := sub_8 (List.mem_of_getElem? (i := 172) rfl)
theorem uz_892 : vz_892 ∈ lw_tbl := List.mem_append_left _ (List.mem_map.mpr ⟨_, pv_7 (List.mem_of_getElem? (i := 12) rfl), rfl⟩)
theorem uz_893 : vz_893 ∈ lw_tbl := sub_8 (List.mem_of_getElem? (i := 183) rfl)
theorem uz_894 : vz_894 ∈ lw_tbl := sub_8 (List.mem_of_getElem? (i := 178) rfl)
theorem uz_895 : vz_895 ∈ lw_tbl := sub_8 (List.mem_of_getElem? (i := 162) rfl)
theorem uz_896 : vz_896 ∈ lw_tbl := sub_8 (List.mem_of_getElem? (i := 165) rfl)
theorem uz_897 : vz_897 ∈ lw_tbl := sub_8 (List.mem_of_getElem? (i := 164) rfl)
theorem uz_898 : vz_898 ∈ lw_tbl := List.mem_append_left _ (List.mem_map.mpr ⟨_, pv_7 (List.mem_of_getElem? (i := 10) rfl), rfl⟩)
theorem uz_899 : vz_899 ∈ lw_tbl := sub_2 (List.mem_of_getElem? (i := 154) rfl)
theorem uz_900 : vz_900 ∈ lw_tbl := sub_8 (List.mem_of_getElem? (i := 175) rfl)
theorem uz_901 : vz_901 ∈ lw_tbl := sub_8 (List.mem_of_getElem? (i := 176) rfl)
theorem uz_902 : vz_902 ∈ lw_tbl := sub_8 (List.mem_of_getElem? (i := 158) rfl)
theorem uz_903 : vz_903 ∈ lw_tbl := sub_8 (List.mem_of_getElem? (i := 161) rfl)
theorem uz_904 : vz_904 ∈ lw_tbl := sub_8 (List.mem_of_getElem? (i := 160) rfl)
theorem uz_905 : vz_905 ∈ lw_tbl := List.mem_append_left _ (List.mem_map.mpr ⟨_, pv_7 (List.mem_of_getElem? (i := 9) rfl), rfl⟩)
theorem uz_906 : vz_906 ∈ lw_tbl := sub_7 (List.mem_of_getElem? (i := 105) rfl)
theorem uz_907 : vz_907 ∈ lw_tbl := sub_8 (List.mem_of_getElem? (i := 184) rfl)
theorem uz_908 : vz_908 ∈ lw_tbl := sub_8 (List.mem_of_getElem? (i := 187) rfl)
theorem uz_909 : vz_909 ∈ lw_tbl := sub_8 (List.mem_of_getElem? (i := 186) rfl)
theorem uz_910 : vz_910 ∈ lw_tbl := List.mem_append_left _ (List.mem_map.mpr ⟨_, pv_7 (List.mem_of_getElem? (i := 14) rfl), rfl⟩)
theorem uz_911 : vz_911 ∈ lw_tbl := sub_8 (List.mem_of_getElem? (i := 196) rfl)
theorem uz_912 : vz_912 ∈ lw_tbl := sub_8 (List.mem_of_getElem? (i := 199) rfl)
theorem uz_913 : vz_913 ∈ lw_tbl := sub_8 (List.mem_of_getElem? (i := 198) rfl)
theorem uz_914 : vz_914 ∈ lw_tbl := List.mem_append_left _ (List.mem_map.mpr ⟨_, pv_8 (List.mem_of_getElem? (i := 1) rfl), rfl⟩)
theorem uz_915 : vz_915 ∈ lw_tbl := sub_8 (List.mem_of_getElem? (i := 204) rfl)
theorem uz_916 : vz_916 ∈ lw_tbl := sub_8 (List.mem_of_getElem? (i := 207) rfl)
theorem uz_917 : vz_917 ∈ lw_tbl := sub_8 (List.mem_of_getElem? (i := 206) rfl)
theorem uz_918 : vz_918 ∈ lw_tbl := List.mem_append_left _ (List.mem_map.mpr ⟨_, pv_8 (List.mem_of_getElem? (i := 3) rfl), rfl⟩)
theorem uz_919 : vz_919 ∈ lw_tbl := sub_8 (List.mem_of_getElem? (i := 145) rfl)
theorem uz_920 : vz_920 ∈ lw_tbl := sub_8 (List.mem_of_getElem? (i := 148) rfl)
theorem uz_921 : vz_921 ∈ lw_tbl := sub_8 (List.mem_of_getElem? (i := 147) rfl)
theorem uz_922 : vz_922 ∈ lw_tbl := List.mem_append_left _ (List.mem_map.mpr ⟨_, pv_7 (List.mem_of_getElem? (i := 6) rfl), rfl⟩)
theorem uz_923 : vz_923 ∈ lw_tbl := sub_8 (List.mem_of_getElem? (i := 125) rfl)
theorem uz_924 : vz_924 ∈ lw_tbl := sub_8 (List.mem_of_getElem? (i := 128) rfl)
theorem uz_925 : vz_925 ∈ lw_tbl := sub_8 (List.mem_of_getElem? (i := 127) rfl)
theorem uz_926 : vz_926 ∈ lw_tbl := List.mem_append_left _ (List.mem_map.mpr ⟨_, pv_7 (List.mem_of_getElem? (i := 1) rfl), rfl⟩)
theorem uz_927 : vz_927 ∈ lw_tbl := sub_8 (List.mem_of_getElem? (i := 216) rfl)
theorem uz_928 : vz_928 ∈ lw_tbl := sub_8 (List.mem_of_getElem? (i := 219) rfl)
theorem uz_929 : vz_929 ∈ lw_tbl := sub_8 (List.mem_of_getElem? (i := 218) rfl)
theorem uz_930 : vz_930 ∈ lw_tbl := List.mem_append_left _ (List.mem_map.mpr ⟨_, pv_8 (List.mem_of_getElem? (i := 6) rfl), rfl⟩)
theorem uz_931 : vz_931 ∈ lw_tbl := sub_8 (List.mem_of_getElem? (i := 119) rfl)
theorem uz_932 : vz_932 ∈ lw_tbl := sub_7 (List.mem_of_getElem? (i := 97) rfl)
theorem uz_933 : vz_933 ∈ lw_tbl := sub_7 (List.mem_of_getElem? (i := 101) rfl)
theorem uz_934 : vz_934 ∈ lw_tbl := sub_7 (List.mem_of_getElem? (i := 104) rfl)
theorem uz_935 : vz_935 ∈ lw_tbl := sub_7 (List.mem_of_getElem? (i := 103) rfl)
theorem uz_936 : vz_936 ∈ lw_tbl := List.mem_append_left _ (List.mem_map.mpr ⟨_, pv_6 (List.mem_of_getElem? (i := 11) rfl), rfl⟩)
theorem uz_937 : vz_937 ∈ lw_tbl := sub_8 (List.mem_of_getElem? (i := 149) rfl)
theorem uz_938 : vz_938 ∈ lw_tbl := sub_8 (List.mem_of_getElem? (i := 152) rfl)
theorem uz_939 : vz_939 ∈ lw_tbl := sub_8 (List.mem_of_getElem? (i := 151) rfl)
theorem uz_940 : vz_940 ∈ lw_tbl := List.mem_append_left _ (List.mem_map.mpr ⟨_, pv_7 (List.mem_of_getElem? (i := 7) rfl), rfl⟩)
theorem uz_941 : vz_941 ∈ lw_tbl := sub_8 (List.mem_of_getElem? (i := 188) rfl)
theorem uz_942 : vz_942 ∈ lw_tbl := sub_8 (List.mem_of_getElem? (i := 191) rfl)
theorem uz_943 : vz_943 ∈ lw_tbl := sub_8 (List.mem_of_getElem? (i := 190) rfl)
theorem uz_944 : vz_944 ∈ lw_tbl := List.mem_append_left _ (List.mem_map.mpr ⟨_, pv_7 (List.mem_of_getElem? (i := 15) rfl), rfl⟩)
theorem uz_945 : vz_945 ∈ lw_tbl := sub_7 (List.mem_of_getElem? (i := 121) rfl)
theorem uz_946 : vz_946 ∈ lw_tbl := sub_1 (List.mem_of_getElem? (i := 21) rfl)
theorem uz_947 : vz_947 ∈ lw_tbl := sub_7 (List.mem_of_getElem? (i := 123) rfl)
theorem uz_948 : vz_948 ∈ lw_tbl := sub_7 (List.mem_of_getElem? (i := 122) rfl)
theorem uz_949 : vz_949 ∈ lw_tbl := sub_9 (List.mem_of_getElem? (i := 235) rfl)
theorem uz_950 : vz_950 ∈ lw_tbl := sub_9 (List.mem_of_getElem? (i := 238) rfl)
theorem uz_951 : vz_951 ∈ lw_tbl := sub_9 (List.mem_of_getElem? (i := 237) rfl)
theorem uz_952 : vz_952 ∈ lw_tbl := List.mem_append_left _ (List.mem_map.mpr ⟨_, pv_10 (List.mem_of_getElem? (i := 5) rfl), rfl⟩)
theorem uz_953 : vz_953 ∈ lw_tbl := sub_10 (List.mem_of_getElem? (i := 6) rfl)
theorem uz_954 : vz_954 ∈ lw_tbl := sub_9 (List.mem_of_getElem? (i := 231) rfl)
theorem uz_955 : vz_955 ∈ lw_tbl := sub_9 (List.mem_of_getElem? (i := 234) rfl)
theorem uz_956 : vz_956 ∈ lw_tbl := sub_9 (List.mem_of_getElem? (i := 233) rfl)
theorem uz_957 : vz_957 ∈ lw_tbl := List.mem_append_left _ (List.mem_map.mpr ⟨_, pv_10 (List.mem_of_getElem? (i := 4) rfl), rfl⟩)
theorem uz_958 : vz_958 ∈ lw_tbl := sub_10 (List.mem_of_getElem? (i := 8) rfl)
theorem uz_959 : vz_959 ∈ lw_tbl := sub_10 (List.mem_of_getElem? (i := 11) rfl)
theorem uz_960 : vz_960 ∈ lw_tbl := sub_10 (List.mem_of_getElem? (i := 9) rfl)
theorem uz_961 : vz_961 ∈ lw_tbl := sub_10 (List.mem_of_getElem? (i := 10) rfl)
theorem uz_962 : vz_962 ∈ lw_tbl := sub_10 (List.mem_of_getElem? (i := 12) rfl)
theorem uz_963 : vz_963 ∈ lw_tbl := sub_10 (List.mem_of_getElem? (i := 15) rfl)
theorem uz_964 : vz_964 ∈ lw_tbl := sub_10 (List.mem_of_getElem? (i := 14) rfl)
theorem uz_965 : vz_965 ∈ lw_tbl := List.mem_append_left _ (List.mem_map.mpr ⟨_, pv_10 (List.mem_of_getElem? (i := 6) rfl), rfl⟩)
theorem uz_966 : vz_966 ∈ lw_tbl := sub_10 (List.mem_of_getElem? (i := 16) rfl)
theorem uz_967 : vz_967 ∈ lw_tbl := sub_10 (List.mem_of_getElem? (i := 19) rfl)
theorem uz_968 : vz_968 ∈ lw_tbl := sub_10 (List.mem_of_getElem? (i := 18) rfl)
theorem uz_969 : vz_969 ∈ lw_tbl := List.mem_append_left _ (List.mem_map.mpr ⟨_, pv_10 (List.mem_of_getElem? (i := 7) rfl), rfl⟩)
theorem uz_970 : vz_970 ∈ lw_tbl := sub_1 (List.mem_of_getElem? (i := 178) rfl)
theorem uz_971 : vz_971 ∈ lw_tbl := sub_8 (List.mem_of_getElem? (i := 166) rfl)
theorem uz_972 : vz_972 ∈ lw_tbl := sub_8 (List.mem_of_getElem? (i := 169) rfl)
theorem uz_973 : vz_973 ∈ lw_tbl := sub_8 (List.mem_of_getElem? (i := 168) rfl)
theorem uz_974 : vz_974 ∈ lw_tbl := List.mem_append_left _ (List.mem_map.mpr ⟨_, pv_7 (List.mem_of_getElem? (i := 11) rfl), rfl⟩)
theorem uz_975 : vz_975 ∈ lw_tbl := sub_8 (List.mem_of_getElem? (i := 179) rfl)
theorem uz_976 : vz_976 ∈ lw_tbl := sub_8 (List.mem_of_getElem? (i := 182) rfl)
theorem uz_977 : vz_977 ∈ lw_tbl := sub_8 (List.mem_of_getElem? (i := 181) rfl)
theorem uz_978 : vz_978 ∈ lw_tbl := List.mem_append_left _ (List.mem_map.mpr ⟨_, pv_7 (List.mem_of_getElem? (i := 13) rfl), rfl⟩)
theorem uz_979 : vz_979 ∈ lw_tbl := sub_8 (List.mem_of_getElem? (i := 129) rfl)
theorem uz_980 : vz_980 ∈ lw_tbl := sub_8 (List.mem_of_getElem? (i := 132) rfl)
theorem uz_981 : vz_981 ∈ lw_tbl := sub_8 (List.mem_of_getElem? (i := 131) rfl)
theorem uz_982 : vz_982 ∈ lw_tbl := List.mem_append_left _ (List.mem_map.mpr ⟨_, pv_7 (List.mem_of_getElem? (i := 2) rfl), rfl⟩)
theorem uz_983 : vz_983 ∈ lw_tbl := sub_8 (List.mem_of_getElem? (i := 137) rfl)
theorem uz_984 : vz_984 ∈ lw_tbl := sub_8 (List.mem_of_getElem? (i := 140) rfl)
theorem uz_985 : vz_985 ∈ lw_tbl := sub_8 (List.mem_of_getElem? (i := 139) rfl)
theorem uz_986 : vz_986 ∈ lw_tbl := List.mem_append_left _ (List.mem_map.mpr ⟨_, pv_7 (List.mem_of_getElem? (i := 4) rfl), rfl⟩)
theorem uz_987 : vz_987 ∈ lw_tbl := sub_8 (List.mem_of_getElem? (i := 153) rfl)
theorem uz_988 : vz_988 ∈ lw_tbl := sub_8 (List.mem_of_getElem? (i := 192) rfl)
theorem uz_989 : vz_989 ∈ lw_tbl := sub_8 (List.mem_of_getElem? (i := 195) rfl)
theorem uz_990 : vz_990 ∈ lw_tbl := sub_8 (List.mem_of_getElem? (i := 194) rfl)
theorem uz_991 : vz_991 ∈ lw_tbl := List.mem_append_left _ (List.mem_map.mpr ⟨_, pv_8 (List.mem_of_getElem? (i := 0) rfl), rfl⟩)
theorem uz_992 : vz_992 ∈ lw_tbl := sub_1 (List.mem_of_getElem? (i := 48) rfl)
theorem uz_993 : vz_993 ∈ lw_tbl := sub_1 (List.mem_of_getElem? (i := 49) rfl)
theorem uz_994 : vz_994 ∈ lw_tbl := sub_1 (List.mem_of_getElem? (i := 51) rfl)
theorem uz_995 : vz_995 ∈ lw_tbl := sub_1 (List.mem_of_getElem? (i := 53) rfl)
theorem uz_996 : vz_996 ∈ lw_tbl := sub_1 (List.mem_of_getElem? (i := 54) rfl)
theorem uz_997 : vz_997 ∈ lw_tbl := sub_1 (List.mem_of_getElem? (i := 56) rfl)
theorem uz_998 : vz_998 ∈ lw_tbl := sub_1 (List.mem_of_getElem? (i := 57) rfl)
theorem uz_999 : vz_999 ∈ lw_tbl := sub_5 (List.mem_of_getElem? (i := 168) rfl)
theorem uz_1000 : vz_1000 ∈ lw_tbl := sub_5 (List.mem_of_getElem? (i := 169) rfl)
theorem uz_1001 : vz_1001 ∈ lw_tbl := sub_5 (List.mem_of_getElem? (i := 65) rfl)
theorem uz_1002 : vz_1002 ∈ lw_tbl := sub_5 (List.mem_of_getElem? (i := 66) rfl)
theorem uz_1003 : vz_1003 ∈ lw_tbl := sub_5 (List.mem_of_getElem? (i := 124) rfl)
theorem uz_1004 : vz_1004 ∈ lw_tbl := sub_5 (List.mem_of_getElem? (i := 126) rfl)
theorem uz_1005 : vz_1005 ∈ lw_tbl := sub_5 (List.mem_of_getElem? (i := 125) rfl)
theorem uz_1006 : vz_1006 ∈ lw_tbl := sub_5 (List.mem_of_getElem? (i := 114) rfl)
theorem uz_1007 : vz_1007 ∈ lw_tbl := sub_5 (List.mem_of_getElem? (i := 116) rfl)
theorem uz_1008 : vz_1008 ∈ lw_tbl := sub_5 (List.mem_of_getElem? (i := 115) rfl)
theorem uz_1009 : vz_1009 ∈ lw_tbl := sub_5 (List.mem_of_getElem? (i := 49) rfl)
theorem uz_1010 : vz_1010 ∈ lw_tbl := sub_5 (List.mem_of_getElem? (i := 52) rfl)
theorem uz_1011 : vz_1011 ∈ lw_tbl := sub_5 (List.mem_of_getElem? (i := 50) rfl)
theorem uz_1012 : vz_1012 ∈ lw_tbl := sub_5 (List.mem_of_getElem? (i := 51) rfl)
theorem uz_1013 : vz_1013 ∈ lw_tbl := sub_5 (List.mem_of_getElem? (i := 12) rfl)
theorem uz_1014 : vz_1014 ∈ lw_tbl := sub_5 (List.mem_of_getElem? (i := 15) rfl)
theorem uz_1015 : vz_1015 ∈ lw_tbl := sub_5 (List.mem_of_getElem? (i := 14) rfl)
theorem uz_1016 : vz_1016 ∈ lw_tbl := List.mem_append_left _ (List.mem_map.mpr ⟨_, pv_1 (List.mem_of_getElem? (i := 3) rfl), rfl⟩)
theorem uz_1017 : vz_1017 ∈ lw_tbl := sub_1 (List.mem_of_getElem? (i := 55) rfl)
theorem uz_1018 : vz_1018 ∈ lw_tbl := sub_5 (List.mem_of_getElem? (i := 16) rfl)
theorem uz_1019 : vz_1019 ∈ lw_tbl := sub_5 (List.mem_of_getElem? (i := 18) rfl)
theorem uz_1020 : vz_1020 ∈ lw_tbl := sub_5 (List.mem_of_getElem? (i := 17) rfl)
theorem uz_1021 : vz_1021 ∈ lw_tbl := sub_1 (List.mem_of_getElem? (i := 20) rfl)
theorem uz_1022 : vz_1022 ∈ lw_tbl := sub_1 (List.mem_of_getElem? (i := 59) rfl)
theorem uz_1023 : vz_1023 ∈ lw_tbl := sub_1 (List.mem_of_getElem? (i := 61) rfl)
theorem uz_1024 : vz_1024 ∈ lw_tbl := sub_5 (List.mem_of_getElem? (i := 41) rfl)
theorem uz_1025 : vz_1025 ∈ lw_tbl := sub_5 (List.mem_of_getElem? (i := 44) rfl)
theorem uz_1026 : vz_1026 ∈ lw_tbl := sub_5 (List.mem_of_getElem? (i := 43) rfl)
theorem uz_1027 : vz_1027 ∈ lw_tbl := List.mem_append_left _ (List.mem_map.mpr ⟨_, pv_1 (List.mem_of_getElem? (i := 6) rfl), rfl⟩)
theorem uz_1028 : vz_1028 ∈ lw_tbl := sub_5 (List.mem_of_getElem? (i := 110) rfl)
theorem uz_1029 : vz_1029 ∈ lw_tbl := sub_5 (List.mem_of_getElem? (i := 113) rfl)
theorem uz_1030 : vz_1030 ∈ lw_tbl := sub_5 (List.mem_of_getElem? (i := 112) rfl)
theorem uz_1031 : vz_1031 ∈ lw_tbl := List.mem_append_left _ (List.mem_map.mpr ⟨_, pv_1 (List.mem_of_getElem? (i := 8) rfl), rfl⟩)
theorem uz_1032 : vz_1032 ∈ lw_tbl := sub_5 (List.mem_of_getElem? (i := 8) rfl)
theorem uz_1033 : vz_1033 ∈ lw_tbl := sub_5 (List.mem_of_getElem? (i := 11) rfl)
theorem uz_1034 : vz_1034 ∈ lw_tbl := sub_5 (List.mem_of_getElem? (i := 10) rfl)
theorem uz_1035 : vz_1035 ∈ lw_tbl := List.mem_append_left _ (List.mem_map.mpr ⟨_, pv_1 (List.mem_of_getElem? (i := 2) rfl), rfl⟩)
theorem uz_1036 : vz_1036 ∈ lw_tbl := sub_5 (List.mem_of_getElem? (i := 121) rfl)
theorem uz_1037 : vz_1037 ∈ lw_tbl := sub_5 (List.mem_of_getElem? (i := 123) rfl)
theorem uz_1038 : vz_1038 ∈ lw_tbl := sub_5 (List.mem_of_getElem? (i := 122) rfl)
theorem uz_1039 : vz_1039 ∈ lw_tbl := sub_5 (List.mem_of_getElem? (i := 45) rfl)
theorem uz_1040 : vz_1040 ∈ lw_tbl := sub_5 (List.mem_of_getElem? (i := 47) rfl)
theorem uz_1041 : vz_1041 ∈ lw_tbl := sub_5 (List.mem_of_getElem? (i := 46) rfl)
theorem uz_1042 : vz_1042 ∈ lw_tbl := sub_5 (List.mem_of_getElem? (i := 106) rfl)
theorem uz_1043 : vz_1043 ∈ lw_tbl := sub_5 (List.mem_of_getElem? (i := 109) rfl)
theorem uz_1044 : vz_1044 ∈ lw_tbl := sub_5 (List.mem_of_getElem? (i := 108) rfl)
theorem uz_1045 : vz_1045 ∈ lw_tbl := List.mem_append_left _ (List.mem_map.mpr ⟨_, pv_1 (List.mem_of_getElem? (i := 7) rfl), rfl⟩)
theorem uz_1046 : vz_1046 ∈ lw_tbl := sub_5 (List.mem_of_getElem? (i := 117) rfl)
theorem uz_1047 : vz_1047 ∈ lw_tbl := sub_5 (List.mem_of_getElem? (i := 120) rfl)
theorem uz_1048 : vz_1048 ∈ lw_tbl := sub_5 (List.mem_of_getElem? (i := 119) rfl)
theorem uz_1049 : vz_1049 ∈ lw_tbl := List.mem_append_left _ (List.mem_map.mpr ⟨_, pv_1 (List.mem_of_getElem? (i := 9) rfl), rfl⟩)
theorem uz_1050 : vz_1050 ∈ lw_tbl := sub_5 (List.mem_of_getElem? (i := 127) rfl)
theorem uz_1051 : vz_1051 ∈ lw_tbl := sub_5 (List.mem_of_getElem? (i := 130) rfl)
theorem uz_1052 : vz_1052 ∈ lw_tbl := sub_5 (List.mem_of_getElem? (i := 129) rfl)
theorem uz_1053 : vz_1053 ∈ lw_tbl := List.mem_append_left _ (List.mem_map.mpr ⟨_, pv_1 (List.mem_of_getElem? (i := 10) rfl), rfl⟩)
theorem uz_1054 : vz_1054 ∈ lw_tbl := sub_3 (List.mem_of_getElem? (i := 79) rfl)
theorem uz_1055 : vz_1055 ∈ lw_tbl := sub_3 (List.mem_of_getElem? (i := 80) rfl)
theorem uz_1056 : vz_1056 ∈ lw_tbl := sub_4 (List.mem_of_getElem? (i := 53) rfl)
theorem uz_1057 : vz_1057 ∈ lw_tbl := sub_4 (List.mem_of_getElem? (i := 54) rfl)
theorem uz_1058 : vz_1058 ∈ lw_tbl := sub_4 (List.mem_of_getElem? (i := 57) rfl)
theorem uz_1059 : vz_1059 ∈ lw_tbl := sub_4 (List.mem_of_getElem? (i := 60) rfl)
theorem uz_1060 : vz_1060 ∈ lw_tbl := sub_4 (List.mem_of_getElem? (i := 64) rfl)
theorem uz_1061 : vz_1061 ∈ lw_tbl := sub_4 (List.mem_of_getElem? (i := 48) rfl)
theorem uz_1062 : vz_1062 ∈ lw_tbl := sub_3 (List.mem_of_getElem? (i := 209) rfl)
theorem uz_1063 : vz_1063 ∈ lw_tbl := sub_3 (List.mem_of_getElem? (i := 210) rfl)
theorem uz_1064 : vz_1064 ∈ lw_tbl := sub_1 (List.mem_of_getElem? (i := 13) rfl)
theorem uz_1065 : vz_1065 ∈ lw_tbl := sub_3 (List.mem_of_getElem? (i := 211) rfl)
theorem uz_1066 : vz_1066 ∈ lw_tbl := sub_3 (List.mem_of_getElem? (i := 213) rfl)
theorem uz_1067 : vz_1067 ∈ lw_tbl := sub_3 (List.mem_of_getElem? (i := 212) rfl)
theorem uz_1068 : vz_1068 ∈ lw_tbl := sub_4 (List.mem_of_getElem? (i := 52) rfl)
theorem uz_1069 : vz_1069 ∈ lw_tbl := sub_4 (List.mem_of_getElem? (i := 22) rfl)
theorem uz_1070 : vz_1070 ∈ lw_tbl := sub_4 (List.mem_of_getElem? (i := 23) rfl)
theorem uz_1071 : vz_1071 ∈ lw_tbl := sub_1 (List.mem_of_getElem? (i := 14) rfl)
theorem uz_1072 : vz_1072 ∈ lw_tbl := sub_4 (List.mem_of_getElem? (i := 24) rfl)
theorem uz_1073 : vz_1073 ∈ lw_tbl := sub_4 (List.mem_of_getElem? (i := 26) rfl)
theorem uz_1074 : vz_1074 ∈ lw_tbl := sub_4 (List.mem_of_getElem? (i := 25) rfl)
theorem uz_1075 : vz_1075 ∈ lw_tbl := sub_4 (List.mem_of_getElem? (i := 50) rfl)
theorem uz_1076 : vz_1076 ∈ lw_tbl := sub_3 (List.mem_of_getElem? (i := 18) rfl)
theorem uz_1077 : vz_1077 ∈ lw_tbl := sub_3 (List.mem_of_getElem? (i := 21) rfl)
theorem uz_1078 : vz_1078 ∈ lw_tbl := sub_3 (List.mem_of_getElem? (i := 24) rfl)
theorem uz_1079 : vz_1079 ∈ lw_tbl := sub_3 (List.mem_of_getElem? (i := 25) rfl)
theorem uz_1080 : vz_1080 ∈ lw_tbl := sub_3 (List.mem_of_getElem? (i := 27) rfl)
theorem uz_1081 : vz_1081 ∈ lw_tbl := sub_3 (List.mem_of_getElem? (i := 30) rfl)
theorem uz_1082 : vz_1082 ∈ lw_tbl := sub_3 (List.mem_of_getElem? (i := 22) rfl)
theorem uz_1083 : vz_1083 ∈ lw_tbl := sub_9 (List.mem_of_getElem? (i := 223) rfl)
theorem uz_1084 : vz_1084 ∈ lw_tbl := sub_3 (List.mem_of_getElem? (i := 19) rfl)
theorem uz_1085 : vz_1085 ∈ lw_tbl := sub_1 (List.mem_of_getElem? (i := 52) rfl)
theorem uz_1086 : vz_1086 ∈ lw_tbl := sub_1 (List.mem_of_getElem? (i := 50) rfl)
theorem uz_1087 : vz_1087 ∈ lw_tbl := sub_9 (List.mem_of_getElem? (i := 219) rfl)
theorem uz_1088 : vz_1088 ∈ lw_tbl := sub_10 (List.mem_of_getElem? (i := 4) rfl)
theorem uz_1089 : vz_1089 ∈ lw_tbl := sub_3 (List.mem_of_getElem? (i := 34) rfl)
theorem uz_1090 : vz_1090 ∈ lw_tbl := sub_10 (List.mem_of_getElem? (i := 5) rfl)
theorem uz_1091 : vz_1091 ∈ lw_tbl := sub_9 (List.mem_of_getElem? (i := 224) rfl)
theorem uz_1092 : vz_1092 ∈ lw_tbl := sub_2 (List.mem_of_getElem? (i := 55) rfl)
theorem uz_1093 : vz_1093 ∈ lw_tbl := sub_2 (List.mem_of_getElem? (i := 56) rfl)
theorem uz_1094 : vz_1094 ∈ lw_tbl := sub_2 (List.mem_of_getElem? (i := 57) rfl)
theorem uz_1095 : vz_1095 ∈ lw_tbl := sub_1 (List.mem_of_getElem? (i := 99) rfl)
theorem uz_1096 : vz_1096 ∈ lw_tbl := sub_6 (List.mem_of_getElem? (i := 6) rfl)
theorem uz_1097 : vz_1097 ∈ lw_tbl := sub_1 (List.mem_of_getElem? (i := 124) rfl)
theorem uz_1098 : vz_1098 ∈ lw_tbl := sub_5 (List.mem_of_getElem? (i := 234) rfl)
theorem uz_1099 : vz_1099 ∈ lw_tbl := sub_5 (List.mem_of_getElem? (i := 237) rfl)
theorem uz_1100 : vz_1100 ∈ lw_tbl := sub_5 (List.mem_of_getElem? (i := 236) rfl)
theorem uz_1101 : vz_1101 ∈ lw_tbl := List.mem_append_left _ (List.mem_map.mpr ⟨_, pv_2 (List.mem_of_getElem? (i := 2) rfl), rfl⟩)
theorem uz_1102 : vz_1102 ∈ lw_tbl := sub_5 (List.mem_of_getElem? (i := 238) rfl)
theorem uz_1103 : vz_1103 ∈ lw_tbl := sub_6 (List.mem_of_getElem? (i := 1) rfl)
theorem uz_1104 : vz_1104 ∈ lw_tbl := sub_6 (List.mem_of_getElem? (i := 0) rfl)
theorem uz_1105 : vz_1105 ∈ lw_tbl := List.mem_append_left _ (List.mem_map.mpr ⟨_, pv_2 (List.mem_of_getElem? (i := 3) rfl), rfl⟩)
theorem uz_1106 : vz_1106 ∈ lw_tbl := sub_5 (List.mem_of_getElem? (i := 144) rfl)
theorem uz_1107 : vz_1107 ∈ lw_tbl := sub_5 (List.mem_of_getElem? (i := 147) rfl)
theorem uz_1108 : vz_1108 ∈ lw_tbl := sub_5 (List.mem_of_getElem? (i := 146) rfl)
theorem uz_1109 : vz_1109 ∈ lw_tbl := List.mem_append_left _ (List.mem_map.mpr ⟨_, pv_1 (List.mem_of_getElem? (i := 13) rfl), rfl⟩)
theorem uz_1110 : vz_1110 ∈ lw_tbl := sub_2 (List.mem_of_getElem? (i := 58) rfl)
theorem uz_1111 : vz_1111 ∈ lw_tbl := sub_6 (List.mem_of_getElem? (i := 22) rfl)
theorem uz_1112 : vz_1112 ∈ lw_tbl := sub_6 (List.mem_of_getElem? (i := 25) rfl)
theorem uz_1113 : vz_1113 ∈ lw_tbl := sub_6 (List.mem_of_getElem? (i := 24) rfl)
theorem uz_1114 : vz_1114 ∈ lw_tbl := List.mem_append_left _ (List.mem_map.mpr ⟨_, pv_2 (List.mem_of_getElem? (i := 7) rfl), rfl⟩)
theorem uz_1115 : vz_1115 ∈ lw_tbl := sub_6 (List.mem_of_getElem? (i := 142) rfl)
theorem uz_1116 : vz_1116 ∈ lw_tbl := sub_6 (List.mem_of_getElem? (i := 145) rfl)
theorem uz_1117 : vz_1117 ∈ lw_tbl := sub_6 (List.mem_of_getElem? (i := 144) rfl)
theorem uz_1118 : vz_1118 ∈ lw_tbl := List.mem_append_left _ (List.mem_map.mpr ⟨_, pv_4 (List.mem_of_getElem? (i := 5) rfl), rfl⟩)
theorem uz_1119 : vz_1119 ∈ lw_tbl := sub_6 (List.mem_of_getElem? (i := 150) rfl)
theorem uz_1120 : vz_1120 ∈ lw_tbl := sub_6 (List.mem_of_getElem? (i := 153) rfl)
theorem uz_1121 : vz_1121 ∈ lw_tbl := sub_6 (List.mem_of_getElem? (i := 152) rfl)
theorem uz_1122 : vz_1122 ∈ lw_tbl := List.mem_append_left _ (List.mem_map.mpr ⟨_, pv_4 (List.mem_of_getElem? (i := 7) rfl), rfl⟩)
theorem uz_1123 : vz_1123 ∈ lw_tbl := sub_6 (List.mem_of_getElem? (i := 34) rfl)
theorem uz_1124 : vz_1124 ∈ lw_tbl := sub_6 (List.mem_of_getElem? (i := 37) rfl)
theorem uz_1125 : vz_1125 ∈ lw_tbl := sub_6 (List.mem_of_getElem? (i := 36) rfl)
theorem uz_1126 : vz_1126 ∈ lw_tbl := List.mem_append_left _ (List.mem_map.mpr ⟨_, pv_2 (List.mem_of_getElem? (i := 10) rfl), rfl⟩)
theorem uz_1127 : vz_1127 ∈ lw_tbl := sub_6 (List.mem_of_getElem? (i := 154) rfl)
theorem uz_1128 : vz_1128 ∈ lw_tbl := sub_6 (List.mem_of_getElem? (i := 157) rfl)
theorem uz_1129 : vz_1129 ∈ lw_tbl := sub_6 (List.mem_of_getElem? (i := 156) rfl)
theorem uz_1130 : vz_1130 ∈ lw_tbl := List.mem_append_left _ (List.mem_map.mpr ⟨_, pv_4 (List.mem_of_getElem? (i := 8) rfl), rfl⟩)
theorem uz_1131 : vz_1131 ∈ lw_tbl := sub_1 (List.mem_of_getElem? (i := 58) rfl)
theorem uz_1132 : vz_1132 ∈ lw_tbl := sub_6 (List.mem_of_getElem? (i := 62) rfl)
theorem uz_1133 : vz_1133 ∈ lw_tbl := sub_6 (List.mem_of_getElem? (i := 65) rfl)
theorem uz_1134 : vz_1134 ∈ lw_tbl := sub_6 (List.mem_of_getElem? (i := 64) rfl)
theorem uz_1135 : vz_1135 ∈ lw_tbl := List.mem_append_left _ (List.mem_map.mpr ⟨_, pv_3 (List.mem_of_getElem? (i := 1) rfl), rfl⟩)
theorem uz_1136 : vz_1136 ∈ lw_tbl := sub_6 (List.mem_of_getElem? (i := 26) rfl)
theorem uz_1137 : vz_1137 ∈ lw_tbl := sub_6 (List.mem_of_getElem? (i := 29) rfl)
theorem uz_1138 : vz_1138 ∈ lw_tbl := sub_6 (List.mem_of_getElem? (i := 28) rfl)
theorem uz_1139 : vz_1139 ∈ lw_tbl := List.mem_append_left _ (List.mem_map.mpr ⟨_, pv_2 (List.mem_of_getElem? (i := 8) rfl), rfl⟩)
theorem uz_1140 : vz_1140 ∈ lw_tbl := sub_6 (List.mem_of_getElem? (i := 38) rfl)
theorem uz_1141 : vz_1141 ∈ lw_tbl := sub_6 (List.mem_of_getElem? (i := 41) rfl)
theorem uz_1142 : vz_1142 ∈ lw_tbl := sub_6 (List.mem_of_getElem? (i := 40) rfl)
theorem uz_1143 : vz_1143 ∈ lw_tbl := List.mem_append_left _ (List.mem_map.mpr ⟨_, pv_2 (List.mem_of_getElem? (i := 11) rfl), rfl⟩)
theorem uz_1144 : vz_1144 ∈ lw_tbl := sub_5 (List.mem_of_getElem? (i := 156) rfl)
theorem uz_1145 : vz_1145 ∈ lw_tbl := sub_5 (List.mem_of_getElem? (i := 159) rfl)
theorem uz_1146 : vz_1146 ∈ lw_tbl := sub_5 (List.mem_of_getElem? (i := 158) rfl)
theorem uz_1147 : vz_1147 ∈ lw_tbl := List.mem_append_left _ (List.mem_map.mpr ⟨_, pv_1 (List.mem_of_getElem? (i := 15) rfl), rfl⟩)
theorem uz_1148 : vz_1148 ∈ lw_tbl := sub_6 (List.mem_of_getElem? (i := 14) rfl)
theorem uz_1149 : vz_1149 ∈ lw_tbl := sub_6 (List.mem_of_getElem? (i := 17) rfl)
theorem uz_1150 : vz_1150 ∈ lw_tbl := sub_6 (List.mem_of_getElem? (i := 16) rfl)
theorem uz_1151 : vz_1151 ∈ lw_tbl := List.mem_append_left _ (List.mem_map.mpr ⟨_, pv_2 (List.mem_of_getElem? (i := 5) rfl), rfl⟩)
theorem uz_1152 : vz_1152 ∈ lw_tbl := sub_1 (List.mem_of_getElem? (i := 128) rfl)
theorem uz_1153 : vz_1153 ∈ lw_tbl := sub_6 (List.mem_of_getElem? (i := 10) rfl)
theorem uz_1154 : vz_1154 ∈ lw_tbl := sub_6 (List.mem_of_getElem? (i := 13) rfl)
theorem uz_1155 : vz_1155 ∈ lw_tbl := sub_6 (List.mem_of_getElem? (i := 12) rfl)
theorem uz_1156 : vz_1156 ∈ lw_tbl := List.mem_append_left _ (List.mem_map.mpr ⟨_, pv_2 (List.mem_of_getElem? (i := 4) rfl), rfl⟩)
theorem uz_1157 : vz_1157 ∈ lw_tbl := sub_1 (List.mem_of_getElem? (i := 137) rfl)
theorem uz_1158 : vz_1158 ∈ lw_tbl := sub_6 (List.mem_of_getElem? (i := 98) rfl)
theorem uz_1159 : vz_1159 ∈ lw_tbl := sub_6 (List.mem_of_getElem? (i := 101) rfl)
theorem uz_1160 : vz_1160 ∈ lw_tbl := sub_6 (List.mem_of_getElem? (i := 100) rfl)
theorem uz_1161 : vz_1161 ∈ lw_tbl := List.mem_append_left _ (List.mem_map.mpr ⟨_, pv_3 (List.mem_of_getElem? (i := 10) rfl), rfl⟩)
theorem uz_1162 : vz_1162 ∈ lw_tbl := sub_6 (List.mem_of_getElem? (i := 130) rfl)
theorem uz_1163 : vz_1163 ∈ lw_tbl := sub_6 (List.mem_of_getElem? (i := 133) rfl)
theorem uz_1164 : vz_1164 ∈ lw_tbl := sub_6 (List.mem_of_getElem? (i := 132) rfl)
theorem uz_1165 : vz_1165 ∈ lw_tbl := List.mem_append_left _ (List.mem_map.mpr ⟨_, pv_4 (List.mem_of_getElem? (i := 2) rfl), rfl⟩)
theorem uz_1166 : vz_1166 ∈ lw_tbl := sub_1 (List.mem_of_getElem? (i := 109) rfl)
theorem uz_1167 : vz_1167 ∈ lw_tbl := sub_6 (List.mem_of_getElem? (i := 46) rfl)
theorem uz_1168 : vz_1168 ∈ lw_tbl := sub_6 (List.mem_of_getElem? (i := 49) rfl)
theorem uz_1169 : vz_1169 ∈ lw_tbl := sub_6 (List.mem_of_getElem? (i := 48) rfl)
theorem uz_1170 : vz_1170 ∈ lw_tbl := List.mem_append_left _ (List.mem_map.mpr ⟨_, pv_2 (List.mem_of_getElem? (i := 13) rfl), rfl⟩)
theorem uz_1171 : vz_1171 ∈ lw_tbl := sub_1 (List.mem_of_getElem? (i := 117) rfl)
theorem uz_1172 : vz_1172 ∈ lw_tbl := sub_6 (List.mem_of_getElem? (i := 102) rfl)
theorem uz_1173 : vz_1173 ∈ lw_tbl := sub_6 (List.mem_of_getElem? (i := 105) rfl)
theorem uz_1174 : vz_1174 ∈ lw_tbl := sub_6 (List.mem_of_getElem? (i := 104) rfl)
theorem uz_1175 : vz_1175 ∈ lw_tbl := List.mem_append_left _ (List.mem_map.mpr ⟨_, pv_3 (List.mem_of_getElem? (i := 11) rfl), rfl⟩)
theorem uz_1176 : vz_1176 ∈ lw_tbl := sub_6 (List.mem_of_getElem? (i := 94) rfl)
theorem uz_1177 : vz_1177 ∈ lw_tbl := sub_6 (List.mem_of_getElem? (i := 97) rfl)
theorem uz_1178 : vz_1178 ∈ lw_tbl := sub_6 (List.mem_of_getElem? (i := 96) rfl)
theorem uz_1179 : vz_1179 ∈ lw_tbl := List.mem_append_left _ (List.mem_map.mpr ⟨_, pv_3 (List.mem_of_getElem? (i := 9) rfl), rfl⟩)
theorem uz_1180 : vz_1180 ∈ lw_tbl := sub_2 (List.mem_of_getElem? (i := 59) rfl)
theorem uz_1181 : vz_1181 ∈ lw_tbl := sub_6 (List.mem_of_getElem? (i := 82) rfl)
theorem uz_1182 : vz_1182 ∈ lw_tbl := sub_6 (List.mem_of_getElem? (i := 85) rfl)
theorem uz_1183 : vz_1183 ∈ lw_tbl := sub_6 (List.mem_of_getElem? (i := 84) rfl)
theorem uz_1184 : vz_1184 ∈ lw_tbl := List.mem_append_left _ (List.mem_map.mpr ⟨_, pv_3 (List.mem_of_getElem? (i := 6) rfl), rfl⟩)
theorem uz_1185 : vz_1185 ∈ lw_tbl := sub_5 (List.mem_of_getElem? (i := 148) rfl)
theorem uz_1186 : vz_1186 ∈ lw_tbl := sub_5 (List.mem_of_getElem? (i := 151) rfl)
theorem uz_1187 : vz_1187 ∈ lw_tbl := sub_5 (List.mem_of_getElem? (i := 149) rfl)
theorem uz_1188 : vz_1188 ∈ lw_tbl := sub_5 (List.mem_of_getElem? (i := 150) rfl)
theorem uz_1189 : vz_1189 ∈ lw_tbl := sub_6 (List.mem_of_getElem? (i := 138) rfl)
theorem uz_1190 : vz_1190 ∈ lw_tbl := sub_6 (List.mem_of_getElem? (i := 141) rfl)
theorem uz_1191 : vz_1191 ∈ lw_tbl := sub_6 (List.mem_of_getElem? (i := 140) rfl)
theorem uz_1192 : vz_1192 ∈ lw_tbl := List.mem_append_left _ (List.mem_map.mpr ⟨_, pv_4 (List.mem_of_getElem? (i := 4) rfl), rfl⟩)
theorem uz_1193 : vz_1193 ∈ lw_tbl := sub_6 (List.mem_of_getElem? (i := 158) rfl)
theorem uz_1194 : vz_1194 ∈ lw_tbl := sub_6 (List.mem_of_getElem? (i := 161) rfl)
theorem uz_1195 : vz_1195 ∈ lw_tbl := sub_6 (List.mem_of_getElem? (i := 160) rfl)
theorem uz_1196 : vz_1196 ∈ lw_tbl := List.mem_append_left _ (List.mem_map.mpr ⟨_, pv_4 (List.mem_of_getElem? (i := 9) rfl), rfl⟩)
theorem uz_1197 : vz_1197 ∈ lw_tbl := sub_6 (List.mem_of_getElem? (i := 162) rfl)
theorem uz_1198 : vz_1198 ∈ lw_tbl := sub_6 (List.mem_of_getElem? (i := 165) rfl)
theorem uz_1199 : vz_1199 ∈ lw_tbl := sub_6 (List.mem_of_getElem? (i := 164) rfl)
theorem uz_1200 : vz_1200 ∈ lw_tbl := List.mem_append_left _ (List.mem_map.mpr ⟨_, pv_4 (List.mem_of_getElem? (i := 10) rfl), rfl⟩)
theorem uz_1201 : vz_1201 ∈ lw_tbl := sub_6 (List.mem_of_getElem? (i := 18) rfl)
theorem uz_1202 : vz_1202 ∈ lw_tbl := sub_6 (List.mem_of_getElem? (i := 21) rfl)
theorem uz_1203 : vz_1203 ∈ lw_tbl := sub_6 (List.mem_of_getElem? (i := 20) rfl)
theorem uz_1204 : vz_1204 ∈ lw_tbl := List.mem_append_left _ (List.mem_map.mpr ⟨_, pv_2 (List.mem_of_getElem? (i := 6) rfl), rfl⟩)
theorem uz_1205 : vz_1205 ∈ lw_tbl := sub_6 (List.mem_of_getElem? (i := 58) rfl)
theorem uz_1206 : vz_1206 ∈ lw_tbl := sub_6 (List.mem_of_getElem? (i := 61) rfl)
theorem uz_1207 : vz_1207 ∈ lw_tbl := sub_6 (List.mem_of_getElem? (i := 60) rfl)
theorem uz_1208 : vz_1208 ∈ lw_tbl := List.mem_append_left _ (List.mem_map.mpr ⟨_, pv_3 (List.mem_of_getElem? (i := 0) rfl), rfl⟩)
theorem uz_1209 : vz_1209 ∈ lw_tbl := sub_5 (List.mem_of_getElem? (i := 164) rfl)
theorem uz_1210 : vz_1210 ∈ lw_tbl := sub_5 (List.mem_of_getElem? (i := 167) rfl)
theorem uz_1211 : vz_1211 ∈ lw_tbl := sub_5 (List.mem_of_getElem? (i := 165) rfl)
theorem uz_1212 : vz_1212 ∈ lw_tbl := sub_5 (List.mem_of_getElem? (i := 166) rfl)
theorem uz_1213 : vz_1213 ∈ lw_tbl := sub_6 (List.mem_of_getElem? (i := 66) rfl)
theorem uz_1214 : vz_1214 ∈ lw_tbl := sub_6 (List.mem_of_getElem? (i := 69) rfl)
theorem uz_1215 : vz_1215 ∈ lw_tbl := sub_6 (List.mem_of_getElem? (i := 68) rfl)
theorem uz_1216 : vz_1216 ∈ lw_tbl := List.mem_append_left _ (List.mem_map.mpr ⟨_, pv_3 (List.mem_of_getElem? (i := 2) rfl), rfl⟩)
theorem uz_1217 : vz_1217 ∈ lw_tbl := sub_6 (List.mem_of_getElem? (i := 86) rfl)
theorem uz_1218 : vz_1218 ∈ lw_tbl := sub_6 (List.mem_of_getElem? (i := 89) rfl)
theorem uz_1219 : vz_1219 ∈ lw_tbl := sub_6 (List.mem_of_getElem? (i := 88) rfl)
theorem uz_1220 : vz_1220 ∈ lw_tbl := List.mem_append_left _ (List.mem_map.mpr ⟨_, pv_3 (List.mem_of_getElem? (i := 7) rfl), rfl⟩)
theorem uz_1221 : vz_1221 ∈ lw_tbl := sub_5 (List.mem_of_getElem? (i := 140) rfl)
theorem uz_1222 : vz_1222 ∈ lw_tbl := sub_5 (List.mem_of_getElem? (i := 143) rfl)
theorem uz_1223 : vz_1223 ∈ lw_tbl := sub_5 (List.mem_of_getElem? (i := 142) rfl)
theorem uz_1224 : vz_1224 ∈ lw_tbl := List.mem_append_left _ (List.mem_map.mpr ⟨_, pv_1 (List.mem_of_getElem? (i := 12) rfl), rfl⟩)
theorem uz_1225 : vz_1225 ∈ lw_tbl := sub_5 (List.mem_of_getElem? (i := 152) rfl)
theorem uz_1226 : vz_1226 ∈ lw_tbl := sub_5 (List.mem_of_getElem? (i := 155) rfl)
theorem uz_1227 : vz_1227 ∈ lw_tbl := sub_5 (List.mem_of_getElem? (i := 154) rfl)
theorem uz_1228 : vz_1228 ∈ lw_tbl := List.mem_append_left _ (List.mem_map.mpr ⟨_, pv_1 (List.mem_of_getElem? (i := 14) rfl), rfl⟩)
theorem uz_1229 : vz_1229 ∈ lw_tbl := sub_6 (List.mem_of_getElem? (i := 42) rfl)
theorem uz_1230 : vz_1230 ∈ lw_tbl := sub_6 (List.mem_of_getElem? (i := 45) rfl)
theorem uz_1231 : vz_1231 ∈ lw_tbl := sub_6 (List.mem_of_getElem? (i := 44) rfl)
theorem uz_1232 : vz_1232 ∈ lw_tbl := List.mem_append_left _ (List.mem_map.mpr ⟨_, pv_2 (List.mem_of_getElem? (i := 12) rfl), rfl⟩)
theorem uz_1233 : vz_1233 ∈ lw_tbl := sub_6 (List.mem_of_getElem? (i := 50) rfl)
theorem uz_1234 : vz_1234 ∈ lw_tbl := sub_6 (List.mem_of_getElem? (i := 53) rfl)
theorem uz_1235 : vz_1235 ∈ lw_tbl := sub_6 (List.mem_of_getElem? (i := 52) rfl)
theorem uz_1236 : vz_1236 ∈ lw_tbl := List.mem_append_left _ (List.mem_map.mpr ⟨_, pv_2 (List.mem_of_getElem? (i := 14) rfl), rfl⟩)
theorem uz_1237 : vz_1237 ∈ lw_tbl := sub_6 (List.mem_of_getElem? (i := 54) rfl)
theorem uz_1238 : vz_1238 ∈ lw_tbl := sub_6 (List.mem_of_getElem? (i := 57) rfl)
theorem uz_1239 : vz_1239 ∈ lw_tbl := sub_6 (List.mem_of_getElem? (i := 56) rfl)
theorem uz_1240 : vz_1240 ∈ lw_tbl := List.mem_append_left _ (List.mem_map.mpr ⟨_, pv_2 (List.mem_of_getElem? (i := 15) rfl), rfl⟩)
theorem uz_1241 : vz_1241 ∈ lw_tbl := sub_2 (List.mem_of_getElem? (i := 60) rfl)
theorem uz_1242 : vz_1242 ∈ lw_tbl := sub_6 (List.mem_of_getElem? (i := 70) rfl)
theorem uz_1243 : vz_1243 ∈ lw_tbl := sub_6 (List.mem_of_getElem? (i := 73) rfl)
theorem uz_1244 : vz_1244 ∈ lw_tbl := sub_6 (List.mem_of_getElem? (i := 72) rfl)
theorem uz_1245 : vz_1245 ∈ lw_tbl := List.mem_append_left _ (List.mem_map.mpr ⟨_, pv_3 (List.mem_of_getElem? (i := 3) rfl), rfl⟩)
theorem uz_1246 : vz_1246 ∈ lw_tbl := sub_6 (List.mem_of_getElem? (i := 134) rfl)
theorem uz_1247 : vz_1247 ∈ lw_tbl := sub_6 (List.mem_of_getElem? (i := 137) rfl)
theorem uz_1248 : vz_1248 ∈ lw_tbl := sub_6 (List.mem_of_getElem? (i := 136) rfl)
theorem uz_1249 : vz_1249 ∈ lw_tbl := List.mem_append_left _ (List.mem_map.mpr ⟨_, pv_4 (List.mem_of_getElem? (i := 3) rfl), rfl⟩)
theorem uz_1250 : vz_1250 ∈ lw_tbl := sub_6 (List.mem_of_getElem? (i := 166) rfl)
theorem uz_1251 : vz_1251 ∈ lw_tbl := sub_6 (List.mem_of_getElem? (i := 169) rfl)
theorem uz_1252 : vz_1252 ∈ lw_tbl := sub_6 (List.mem_of_getElem? (i := 168) rfl)
theorem uz_1253 : vz_1253 ∈ lw_tbl := List.mem_append_left _ (List.mem_map.mpr ⟨_, pv_4 (List.mem_of_getElem? (i := 11) rfl), rfl⟩)
theorem uz_1254 : vz_1254 ∈ lw_tbl := sub_6 (List.mem_of_getElem? (i := 78) rfl)
theorem uz_1255 : vz_1255 ∈ lw_tbl := sub_6 (List.mem_of_getElem? (i := 81) rfl)
theorem uz_1256 : vz_1256 ∈ lw_tbl := sub_6 (List.mem_of_getElem? (i := 80) rfl)
theorem uz_1257 : vz_1257 ∈ lw_tbl := List.mem_append_left _ (List.mem_map.mpr ⟨_, pv_3 (List.mem_of_getElem? (i := 5) rfl), rfl⟩)
theorem uz_1258 : vz_1258 ∈ lw_tbl := sub_1 (List.mem_of_getElem? (i := 140) rfl)
theorem uz_1259 : vz_1259 ∈ lw_tbl := sub_6 (List.mem_of_getElem? (i := 90) rfl)
theorem uz_1260 : vz_1260 ∈ lw_tbl := sub_6 (List.mem_of_getElem? (i := 93) rfl)
theorem uz_1261 : vz_1261 ∈ lw_tbl := sub_6 (List.mem_of_getElem? (i := 92) rfl)
theorem uz_1262 : vz_1262 ∈ lw_tbl := List.mem_append_left _ (List.mem_map.mpr ⟨_, pv_3 (List.mem_of_getElem? (i := 8) rfl), rfl⟩)
theorem uz_1263 : vz_1263 ∈ lw_tbl := sub_2 (List.mem_of_getElem? (i := 61) rfl)
theorem uz_1264 : vz_1264 ∈ lw_tbl := sub_2 (List.mem_of_getElem? (i := 62) rfl)
theorem uz_1265 : vz_1265 ∈ lw_tbl := sub_2 (List.mem_of_getElem? (i := 64) rfl)
theorem uz_1266 : vz_1266 ∈ lw_tbl := sub_2 (List.mem_of_getElem? (i := 66) rfl)
theorem uz_1267 : vz_1267 ∈ lw_tbl := sub_6 (List.mem_of_getElem? (i := 30) rfl)
theorem uz_1268 : vz_1268 ∈ lw_tbl := sub_6 (List.mem_of_getElem? (i := 33) rfl)
theorem uz_1269 : vz_1269 ∈ lw_tbl := sub_6 (List.mem_of_getElem? (i := 32) rfl)
theorem uz_1270 : vz_1270 ∈ lw_tbl := List.mem_append_left _ (List.mem_map.mpr ⟨_, pv_2 (List.mem_of_getElem? (i := 9) rfl), rfl⟩)
theorem uz_1271 : vz_1271 ∈ lw_tbl := sub_6 (List.mem_of_getElem? (i := 2) rfl)
theorem uz_1272 : vz_1272 ∈ lw_tbl := sub_6 (List.mem_of_getElem? (i := 5) rfl)
theorem uz_1273 : vz_1273 ∈ lw_tbl := sub_6 (List.mem_of_getElem? (i := 3) rfl)
theorem uz_1274 : vz_1274 ∈ lw_tbl := sub_6 (List.mem_of_getElem? (i := 4) rfl)
theorem uz_1275 : vz_1275 ∈ lw_tbl := sub_3 (List.mem_of_getElem? (i := 86) rfl)
theorem uz_1276 : vz_1276 ∈ lw_tbl := sub_3 (List.mem_of_getElem? (i := 87) rfl)
theorem uz_1277 : vz_1277 ∈ lw_tbl := sub_3 (List.mem_of_getElem? (i := 91) rfl)
theorem uz_1278 : vz_1278 ∈ lw_tbl := sub_3 (List.mem_of_getElem? (i := 96) rfl)
theorem uz_1279 : vz_1279 ∈ lw_tbl := sub_3 (List.mem_of_getElem? (i := 101) rfl)
theorem uz_1280 : vz_1280 ∈ lw_tbl := sub_3 (List.mem_of_getElem? (i := 106) rfl)
theorem uz_1281 : vz_1281 ∈ lw_tbl := sub_3 (List.mem_of_getElem? (i := 110) rfl)
theorem uz_1282 : vz_1282 ∈ lw_tbl := sub_3 (List.mem_of_getElem? (i := 214) rfl)
theorem uz_1283 : vz_1283 ∈ lw_tbl := sub_3 (List.mem_of_getElem? (i := 217) rfl)
theorem uz_1284 : vz_1284 ∈ lw_tbl := sub_3 (List.mem_of_getElem? (i := 218) rfl)
theorem uz_1285 : vz_1285 ∈ lw_tbl := sub_3 (List.mem_of_getElem? (i := 223) rfl)
theorem uz_1286 : vz_1286 ∈ lw_tbl := sub_3 (List.mem_of_getElem? (i := 228) rfl)
theorem uz_1287 : vz_1287 ∈ lw_tbl := sub_3 (List.mem_of_getElem? (i := 230) rfl)
theorem uz_1288 : vz_1288 ∈ lw_tbl := sub_3 (List.mem_of_getElem? (i := 71) rfl)
theorem uz_1289 : vz_1289 ∈ lw_tbl := sub_4 (List.mem_of_getElem? (i := 127) rfl)
theorem uz_1290 : vz_1290 ∈ lw_tbl := sub_4 (List.mem_of_getElem? (i := 131) rfl)
theorem uz_1291 : vz_1291 ∈ lw_tbl := sub_4 (List.mem_of_getElem? (i := 132) rfl)
theorem uz_1292 : vz_1292 ∈ lw_tbl := sub_3 (List.mem_of_getElem? (i := 72) rfl)
theorem uz_1293 : vz_1293 ∈ lw_tbl := sub_4 (List.mem_of_getElem? (i := 134) rfl)
theorem uz_1294 : vz_1294 ∈ lw_tbl := sub_4 (List.mem_of_getElem? (i := 116) rfl)
theorem uz_1295 : vz_1295 ∈ lw_tbl := sub_4 (List.mem_of_getElem? (i := 117) rfl)
theorem uz_1296 : vz_1296 ∈ lw_tbl := sub_4 (List.mem_of_getElem? (i := 125) rfl)
theorem uz_1297 : vz_1297 ∈ lw_tbl := sub_9 (List.mem_of_getElem? (i := 176) rfl)
theorem uz_1298 : vz_1298 ∈ lw_tbl := sub_5 (List.mem_of_getElem? (i := 31) rfl)
theorem uz_1299 : vz_1299 ∈ lw_tbl := sub_5 (List.mem_of_getElem? (i := 30) rfl)
theorem uz_1300 : vz_1300 ∈ lw_tbl := sub_4 (List.mem_of_getElem? (i := 27) rfl)
theorem uz_1301 : vz_1301 ∈ lw_tbl := sub_4 (List.mem_of_getElem? (i := 32) rfl)
theorem uz_1302 : vz_1302 ∈ lw_tbl := sub_4 (List.mem_of_getElem? (i := 28) rfl)
theorem uz_1303 : vz_1303 ∈ lw_tbl := sub_4 (List.mem_of_getElem? (i := 29) rfl)
theorem uz_1304 : vz_1304 ∈ lw_tbl := sub_4 (List.mem_of_getElem? (i := 30) rfl)
theorem uz_1305 : vz_1305 ∈ lw_tbl := sub_4 (List.mem_of_getElem? (i := 31) rfl)
theorem uz_1306 : vz_1306 ∈ lw_tbl := sub_1 (List.mem_of_getElem? (i := 168) rfl)
theorem uz_1307 : vz_1307 ∈ lw_tbl := sub_1 (List.mem_of_getElem? (i := 176) rfl)
theorem uz_1308 : vz_1308 ∈ lw_tbl := sub_1 (List.mem_of_getElem? (i := 179) rfl)
theorem uz_1309 : vz_1309 ∈ lw_tbl := sub_1 (List.mem_of_getElem? (i := 181) rfl)
theorem uz_1310 : vz_1310 ∈ lw_tbl := sub_1 (List.mem_of_getElem? (i := 186) rfl)
theorem uz_1311 : vz_1311 ∈ lw_tbl := sub_1 (List.mem_of_getElem? (i := 189) rfl)
theorem uz_1312 : vz_1312 ∈ lw_tbl := sub_1 (List.mem_of_getElem? (i := 169) rfl)
theorem uz_1313 : vz_1313 ∈ lw_tbl := sub_1 (List.mem_of_getElem? (i := 172) rfl)
theorem uz_1314 : vz_1314 ∈ lw_tbl := sub_1 (List.mem_of_getElem? (i := 171) rfl)
theorem uz_1315 : vz_1315 ∈ lw_tbl := List.mem_append_left _ (List.mem_map.mpr ⟨_, pv_1 (List.mem_of_getElem? (i := 0) rfl), rfl⟩)
theorem uz_1316 : vz_1316 ∈ lw_tbl := sub_1 (List.mem_of_getElem? (i := 212) rfl)
theorem uz_1317 : vz_1317 ∈ lw_tbl := sub_1 (List.mem_of_getElem? (i := 215) rfl)
theorem uz_1318 : vz_1318 ∈ lw_tbl := sub_1 (List.mem_of_getElem? (i := 218) rfl)
theorem uz_1319 : vz_1319 ∈ lw_tbl := sub_1 (List.mem_of_getElem? (i := 210) rfl)
theorem uz_1320 : vz_1320 ∈ lw_tbl := sub_1 (List.mem_of_getElem? (i := 227) rfl)
theorem uz_1321 : vz_1321 ∈ lw_tbl := sub_1 (List.mem_of_getElem? (i := 207) rfl)
theorem uz_1322 : vz_1322 ∈ lw_tbl := sub_1 (List.mem_of_getElem? (i := 238) rfl)
theorem uz_1323 : vz_1323 ∈ lw_tbl := sub_1 (List.mem_of_getElem? (i := 208) rfl)
theorem uz_1324 : vz_1324 ∈ lw_tbl := sub_1 (List.mem_of_getElem? (i := 233) rfl)
theorem uz_1325 : vz_1325 ∈ lw_tbl := sub_5 (List.mem_of_getElem? (i := 29) rfl)
theorem uz_1326 : vz_1326 ∈ lw_tbl := sub_1 (List.mem_of_getElem? (i := 230) rfl)
theorem uz_1327 : vz_1327 ∈ lw_tbl := sub_5 (List.mem_of_getElem? (i := 32) rfl)
theorem uz_1328 : vz_1328 ∈ lw_tbl := sub_9 (List.mem_of_getElem? (i := 201) rfl)
theorem uz_1329 : vz_1329 ∈ lw_tbl := sub_1 (List.mem_of_getElem? (i := 235) rfl)
theorem uz_1330 : vz_1330 ∈ lw_tbl := sub_1 (List.mem_of_getElem? (i := 231) rfl)
theorem uz_1331 : vz_1331 ∈ lw_tbl := sub_1 (List.mem_of_getElem? (i := 237) rfl)
theorem uz_1332 : vz_1332 ∈ lw_tbl := sub_1 (List.mem_of_getElem? (i := 236) rfl)
theorem uz_1333 : vz_1333 ∈ lw_tbl := sub_2 (List.mem_of_getElem? (i := 193) rfl)
theorem uz_1334 : vz_1334 ∈ lw_tbl := sub_2 (List.mem_of_getElem? (i := 196) rfl)
theorem uz_1335 : vz_1335 ∈ lw_tbl := sub_2 (List.mem_of_getElem? (i := 197) rfl)
theorem uz_1336 : vz_1336 ∈ lw_tbl := sub_2 (List.mem_of_getElem? (i := 198) rfl)
theorem uz_1337 : vz_1337 ∈ lw_tbl := sub_2 (List.mem_of_getElem? (i := 199) rfl)
theorem uz_1338 : vz_1338 ∈ lw_tbl := sub_2 (List.mem_of_getElem? (i := 200) rfl)
theorem uz_1339 : vz_1339 ∈ lw_tbl := sub_2 (List.mem_of_getElem? (i := 194) rfl)
theorem uz_1340 : vz_1340 ∈ lw_tbl := sub_9 (List.mem_of_getElem? (i := 8) rfl)
theorem uz_1341 : vz_1341 ∈ lw_tbl := sub_1 (List.mem_of_getElem? (i := 119) rfl)
theorem uz_1342 : vz_1342 ∈ lw_tbl := sub_1 (List.mem_of_getElem? (i := 112) rfl)
theorem uz_1343 : vz_1343 ∈ lw_tbl := sub_1 (List.mem_of_getElem? (i := 132) rfl)
theorem uz_1344 : vz_1344 ∈ lw_tbl := sub_1 (List.mem_of_getElem? (i := 129) rfl)
theorem uz_1345 : vz_1345 ∈ lw_tbl := sub_2 (List.mem_of_getElem? (i := 203) rfl)
theorem uz_1346 : vz_1346 ∈ lw_tbl := sub_2 (List.mem_of_getElem? (i := 202) rfl)
theorem uz_1347 : vz_1347 ∈ lw_tbl := sub_2 (List.mem_of_getElem? (i := 211) rfl)
theorem uz_1348 : vz_1348 ∈ lw_tbl := sub_2 (List.mem_of_getElem? (i := 210) rfl)
theorem uz_1349 : vz_1349 ∈ lw_tbl := sub_2 (List.mem_of_getElem? (i := 195) rfl)
theorem uz_1350 : vz_1350 ∈ lw_tbl := sub_1 (List.mem_of_getElem? (i := 195) rfl)
theorem uz_1351 : vz_1351 ∈ lw_tbl := sub_1 (List.mem_of_getElem? (i := 200) rfl)
theorem uz_1352 : vz_1352 ∈ lw_tbl := sub_1 (List.mem_of_getElem? (i := 93) rfl)
theorem uz_1353 : vz_1353 ∈ lw_tbl := sub_9 (List.mem_of_getElem? (i := 84) rfl)
theorem uz_1354 : vz_1354 ∈ lw_tbl := sub_9 (List.mem_of_getElem? (i := 87) rfl)
theorem uz_1355 : vz_1355 ∈ lw_tbl := sub_9 (List.mem_of_getElem? (i := 86) rfl)
theorem uz_1356 : vz_1356 ∈ lw_tbl := List.mem_append_left _ (List.mem_map.mpr ⟨_, pv_9 (List.mem_of_getElem? (i := 14) rfl), rfl⟩)
theorem uz_1357 : vz_1357 ∈ lw_tbl := sub_1 (List.mem_of_getElem? (i := 100) rfl)
theorem uz_1358 : vz_1358 ∈ lw_tbl := sub_1 (List.mem_of_getElem? (i := 104) rfl)
theorem uz_1359 : vz_1359 ∈ lw_tbl := sub_1 (List.mem_of_getElem? (i := 216) rfl)
theorem uz_1360 : vz_1360 ∈ lw_tbl := sub_1 (List.mem_of_getElem? (i := 228) rfl)
theorem uz_1361 : vz_1361 ∈ lw_tbl := sub_1 (List.mem_of_getElem? (i := 206) rfl)
theorem uz_1362 : vz_1362 ∈ lw_tbl := sub_1 (List.mem_of_getElem? (i := 190) rfl)
theorem uz_1363 : vz_1363 ∈ lw_tbl := sub_9 (List.mem_of_getElem? (i := 92) rfl)
theorem uz_1364 : vz_1364 ∈ lw_tbl := sub_9 (List.mem_of_getElem? (i := 95) rfl)
theorem uz_1365 : vz_1365 ∈ lw_tbl := sub_9 (List.mem_of_getElem? (i := 94) rfl)
theorem uz_1366 : vz_1366 ∈ lw_tbl := List.mem_append_left _ (List.mem_map.mpr ⟨_, pv_10 (List.mem_of_getElem? (i := 0) rfl), rfl⟩)
theorem uz_1367 : vz_1367 ∈ lw_tbl := sub_9 (List.mem_of_getElem? (i := 96) rfl)
theorem uz_1368 : vz_1368 ∈ lw_tbl := sub_1 (List.mem_of_getElem? (i := 187) rfl)
theorem uz_1369 : vz_1369 ∈ lw_tbl := sub_2 (List.mem_of_getElem? (i := 212) rfl)
theorem uz_1370 : vz_1370 ∈ lw_tbl := sub_9 (List.mem_of_getElem? (i := 53) rfl)
theorem uz_1371 : vz_1371 ∈ lw_tbl := sub_9 (List.mem_of_getElem? (i := 56) rfl)
theorem uz_1372 : vz_1372 ∈ lw_tbl := sub_9 (List.mem_of_getElem? (i := 55) rfl)
theorem uz_1373 : vz_1373 ∈ lw_tbl := List.mem_append_left _ (List.mem_map.mpr ⟨_, pv_9 (List.mem_of_getElem? (i := 7) rfl), rfl⟩)
theorem uz_1374 : vz_1374 ∈ lw_tbl := sub_9 (List.mem_of_getElem? (i := 59) rfl)
theorem uz_1375 : vz_1375 ∈ lw_tbl := sub_9 (List.mem_of_getElem? (i := 62) rfl)
theorem uz_1376 : vz_1376 ∈ lw_tbl := sub_9 (List.mem_of_getElem? (i := 61) rfl)
theorem uz_1377 : vz_1377 ∈ lw_tbl := List.mem_append_left _ (List.mem_map.mpr ⟨_, pv_9 (List.mem_of_getElem? (i := 8) rfl), rfl⟩)
theorem uz_1378 : vz_1378 ∈ lw_tbl := sub_1 (List.mem_of_getElem? (i := 222) rfl)
theorem uz_1379 : vz_1379 ∈ lw_tbl := sub_9 (List.mem_of_getElem? (i := 63) rfl)
theorem uz_1380 : vz_1380 ∈ lw_tbl := sub_9 (List.mem_of_getElem? (i := 66) rfl)
theorem uz_1381 : vz_1381 ∈ lw_tbl := sub_9 (List.mem_of_getElem? (i := 65) rfl)
theorem uz_1382 : vz_1382 ∈ lw_tbl := List.mem_append_left _ (List.mem_map.mpr ⟨_, pv_9 (List.mem_of_getElem? (i := 9) rfl), rfl⟩)
theorem uz_1383 : vz_1383 ∈ lw_tbl := sub_9 (List.mem_of_getElem? (i := 29) rfl)
theorem uz_1384 : vz_1384 ∈ lw_tbl := sub_9 (List.mem_of_getElem? (i := 32) rfl)
theorem uz_1385 : vz_1385 ∈ lw_tbl := sub_9 (List.mem_of_getElem? (i := 31) rfl)
theorem uz_1386 : vz_1386 ∈ lw_tbl := List.mem_append_left _ (List.mem_map.mpr ⟨_, pv_9 (List.mem_of_getElem? (i := 1) rfl), rfl⟩)
theorem uz_1387 : vz_1387 ∈ lw_tbl := sub_9 (List.mem_of_getElem? (i := 67) rfl)
theorem uz_1388 : vz_1388 ∈ lw_tbl := sub_2 (List.mem_of_getElem? (i := 201) rfl)
theorem uz_1389 : vz_1389 ∈ lw_tbl := sub_2 (List.mem_of_getElem? (i := 207) rfl)
theorem uz_1390 : vz_1390 ∈ lw_tbl := sub_1 (List.mem_of_getElem? (i := 182) rfl)
theorem uz_1391 : vz_1391 ∈ lw_tbl := sub_9 (List.mem_of_getElem? (i := 25) rfl)
theorem uz_1392 : vz_1392 ∈ lw_tbl := sub_9 (List.mem_of_getElem? (i := 28) rfl)
theorem uz_1393 : vz_1393 ∈ lw_tbl := sub_9 (List.mem_of_getElem? (i := 27) rfl)
theorem uz_1394 : vz_1394 ∈ lw_tbl := List.mem_append_left _ (List.mem_map.mpr ⟨_, pv_9 (List.mem_of_getElem? (i := 0) rfl), rfl⟩)
theorem uz_1395 : vz_1395 ∈ lw_tbl := sub_1 (List.mem_of_getElem? (i := 139) rfl)
theorem uz_1396 : vz_1396 ∈ lw_tbl := sub_1 (List.mem_of_getElem? (i := 202) rfl)
theorem uz_1397 : vz_1397 ∈ lw_tbl := sub_8 (List.mem_of_getElem? (i := 236) rfl)
theorem uz_1398 : vz_1398 ∈ lw_tbl := sub_8 (List.mem_of_getElem? (i := 239) rfl)
theorem uz_1399 : vz_1399 ∈ lw_tbl := sub_8 (List.mem_of_getElem? (i := 237) rfl)
theorem uz_1400 : vz_1400 ∈ lw_tbl := sub_8 (List.mem_of_getElem? (i := 238) rfl)
theorem uz_1401 : vz_1401 ∈ lw_tbl := sub_9 (List.mem_of_getElem? (i := 76) rfl)
theorem uz_1402 : vz_1402 ∈ lw_tbl := sub_9 (List.mem_of_getElem? (i := 79) rfl)
theorem uz_1403 : vz_1403 ∈ lw_tbl := sub_9 (List.mem_of_getElem? (i := 78) rfl)
theorem uz_1404 : vz_1404 ∈ lw_tbl := List.mem_append_left _ (List.mem_map.mpr ⟨_, pv_9 (List.mem_of_getElem? (i := 12) rfl), rfl⟩)
theorem uz_1405 : vz_1405 ∈ lw_tbl := sub_9 (List.mem_of_getElem? (i := 88) rfl)
theorem uz_1406 : vz_1406 ∈ lw_tbl := sub_9 (List.mem_of_getElem? (i := 91) rfl)
theorem uz_1407 : vz_1407 ∈ lw_tbl := sub_9 (List.mem_of_getElem? (i := 90) rfl)
theorem uz_1408 : vz_1408 ∈ lw_tbl := List.mem_append_left _ (List.mem_map.mpr ⟨_, pv_9 (List.mem_of_getElem? (i := 15) rfl), rfl⟩)
theorem uz_1409 : vz_1409 ∈ lw_tbl := sub_9 (List.mem_of_getElem? (i := 37) rfl)
theorem uz_1410 : vz_1410 ∈ lw_tbl := sub_9 (List.mem_of_getElem? (i := 40) rfl)
theorem uz_1411 : vz_1411 ∈ lw_tbl := sub_9 (List.mem_of_getElem? (i := 39) rfl)
theorem uz_1412 : vz_1412 ∈ lw_tbl := List.mem_append_left _ (List.mem_map.mpr ⟨_, pv_9 (List.mem_of_getElem? (i := 3) rfl), rfl⟩)
theorem uz_1413 : vz_1413 ∈ lw_tbl := sub_9 (List.mem_of_getElem? (i := 45) rfl)
theorem uz_1414 : vz_1414 ∈ lw_tbl := sub_9 (List.mem_of_getElem? (i := 48) rfl)
theorem uz_1415 : vz_1415 ∈ lw_tbl := sub_9 (List.mem_of_getElem? (i := 47) rfl)
theorem uz_1416 : vz_1416 ∈ lw_tbl := List.mem_append_left _ (List.mem_map.mpr ⟨_, pv_9 (List.mem_of_getElem? (i := 5) rfl), rfl⟩)
theorem uz_1417 : vz_1417 ∈ lw_tbl := sub_9 (List.mem_of_getElem? (i := 68) rfl)
theorem uz_1418 : vz_1418 ∈ lw_tbl := sub_9 (List.mem_of_getElem? (i := 71) rfl)
theorem uz_1419 : vz_1419 ∈ lw_tbl := sub_9 (List.mem_of_getElem? (i := 70) rfl)
theorem uz_1420 : vz_1420 ∈ lw_tbl := List.mem_append_left _ (List.mem_map.mpr ⟨_, pv_9 (List.mem_of_getElem? (i := 10) rfl), rfl⟩)
theorem uz_1421 : vz_1421 ∈ lw_tbl := sub_2 (List.mem_of_getElem? (i := 208) rfl)
theorem uz_1422 : vz_1422 ∈ lw_tbl := sub_2 (List.mem_of_getElem? (i := 209) rfl)
theorem uz_1423 : vz_1423 ∈ lw_tbl := sub_9 (List.mem_of_getElem? (i := 4) rfl)
theorem uz_1424 : vz_1424 ∈ lw_tbl := sub_9 (List.mem_of_getElem? (i := 7) rfl)
theorem uz_1425 : vz_1425 ∈ lw_tbl := sub_9 (List.mem_of_getElem? (i := 6) rfl)
theorem uz_1426 : vz_1426 ∈ lw_tbl := List.mem_append_left _ (List.mem_map.mpr ⟨_, pv_8 (List.mem_of_getElem? (i := 11) rfl), rfl⟩)
theorem uz_1427 : vz_1427 ∈ lw_tbl := sub_9 (List.mem_of_getElem? (i := 9) rfl)
theorem uz_1428 : vz_1428 ∈ lw_tbl := sub_9 (List.mem_of_getElem? (i := 12) rfl)
theorem uz_1429 : vz_1429 ∈ lw_tbl := sub_9 (List.mem_of_getElem? (i := 11) rfl)
theorem uz_1430 : vz_1430 ∈ lw_tbl := List.mem_append_left _ (List.mem_map.mpr ⟨_, pv_8 (List.mem_of_getElem? (i := 12) rfl), rfl⟩)
theorem uz_1431 : vz_1431 ∈ lw_tbl := sub_9 (List.mem_of_getElem? (i := 33) rfl)
theorem uz_1432 : vz_1432 ∈ lw_tbl := sub_9 (List.mem_of_getElem? (i := 36) rfl)
theorem uz_1433 : vz_1433 ∈ lw_tbl := sub_9 (List.mem_of_getElem? (i := 35) rfl)
theorem uz_1434 : vz_1434 ∈ lw_tbl := List.mem_append_left _ (List.mem_map.mpr ⟨_, pv_9 (List.mem_of_getElem? (i := 2) rfl), rfl⟩)
theorem uz_1435 : vz_1435 ∈ lw_tbl := sub_9 (List.mem_of_getElem? (i := 41) rfl)
theorem uz_1436 : vz_1436 ∈ lw_tbl := sub_9 (List.mem_of_getElem? (i := 44) rfl)
theorem uz_1437 : vz_1437 ∈ lw_tbl := sub_9 (List.mem_of_getElem? (i := 43) rfl)
theorem uz_1438 : vz_1438 ∈ lw_tbl := List.mem_append_left _ (List.mem_map.mpr ⟨_, pv_9 (List.mem_of_getElem? (i := 4) rfl), rfl⟩)
theorem uz_1439 : vz_1439 ∈ lw_tbl := sub_2 (List.mem_of_getElem? (i := 206) rfl)
theorem uz_1440 : vz_1440 ∈ lw_tbl := sub_2 (List.mem_of_getElem? (i := 204) rfl)
theorem uz_1441 : vz_1441 ∈ lw_tbl := sub_10 (List.mem_of_getElem? (i := 24) rfl)
theorem uz_1442 : vz_1442 ∈ lw_tbl := sub_10 (List.mem_of_getElem? (i := 25) rfl)
theorem uz_1443 : vz_1443 ∈ lw_tbl := sub_10 (List.mem_of_getElem? (i := 26) rfl)
theorem uz_1444 : vz_1444 ∈ lw_tbl := sub_1 (List.mem_of_getElem? (i := 214) rfl)
theorem uz_1445 : vz_1445 ∈ lw_tbl := sub_10 (List.mem_of_getElem? (i := 27) rfl)
theorem uz_1446 : vz_1446 ∈ lw_tbl := sub_10 (List.mem_of_getElem? (i := 28) rfl)
theorem uz_1447 : vz_1447 ∈ lw_tbl := sub_10 (List.mem_of_getElem? (i := 3) rfl)
theorem uz_1448 : vz_1448 ∈ lw_tbl := sub_10 (List.mem_of_getElem? (i := 1) rfl)
theorem uz_1449 : vz_1449 ∈ lw_tbl := sub_10 (List.mem_of_getElem? (i := 2) rfl)
theorem uz_1450 : vz_1450 ∈ lw_tbl := sub_10 (List.mem_of_getElem? (i := 29) rfl)
theorem uz_1451 : vz_1451 ∈ lw_tbl := sub_10 (List.mem_of_getElem? (i := 32) rfl)
theorem uz_1452 : vz_1452 ∈ lw_tbl := sub_10 (List.mem_of_getElem? (i := 31) rfl)
theorem uz_1453 : vz_1453 ∈ lw_tbl := List.mem_append_left _ (List.mem_map.mpr ⟨_, pv_10 (List.mem_of_getElem? (i := 8) rfl), rfl⟩)
theorem uz_1454 : vz_1454 ∈ lw_tbl := sub_10 (List.mem_of_getElem? (i := 33) rfl)
theorem uz_1455 : vz_1455 ∈ lw_tbl := sub_10 (List.mem_of_getElem? (i := 36) rfl)
theorem uz_1456 : vz_1456 ∈ lw_tbl := sub_10 (List.mem_of_getElem? (i := 35) rfl)
theorem uz_1457 : vz_1457 ∈ lw_tbl := List.mem_append_left _ (List.mem_map.mpr ⟨_, pv_10 (List.mem_of_getElem? (i := 9) rfl), rfl⟩)
theorem uz_1458 : vz_1458 ∈ lw_tbl := sub_9 (List.mem_of_getElem? (i := 57) rfl)
theorem uz_1459 : vz_1459 ∈ lw_tbl := sub_9 (List.mem_of_getElem? (i := 58) rfl)
theorem uz_1460 : vz_1460 ∈ lw_tbl := sub_2 (List.mem_of_getElem? (i := 205) rfl)
theorem uz_1461 : vz_1461 ∈ lw_tbl := sub_9 (List.mem_of_getElem? (i := 21) rfl)
theorem uz_1462 : vz_1462 ∈ lw_tbl := sub_9 (List.mem_of_getElem? (i := 24) rfl)
theorem uz_1463 : vz_1463 ∈ lw_tbl := sub_9 (List.mem_of_getElem? (i := 23) rfl)
theorem uz_1464 : vz_1464 ∈ lw_tbl := List.mem_append_left _ (List.mem_map.mpr ⟨_, pv_8 (List.mem_of_getElem? (i := 15) rfl), rfl⟩)
theorem uz_1465 : vz_1465 ∈ lw_tbl := sub_13 (List.mem_of_getElem? (i := 212) rfl)
theorem uz_1466 : vz_1466 ∈ lw_tbl := sub_13 (List.mem_of_getElem? (i := 213) rfl)
theorem uz_1467 : vz_1467 ∈ lw_tbl := sub_16 (List.mem_of_getElem? (i := 70) rfl)
theorem uz_1468 : vz_1468 ∈ lw_tbl := sub_13 (List.mem_of_getElem? (i := 202) rfl)
theorem uz_1469 : vz_1469 ∈ lw_tbl := sub_16 (List.mem_of_getElem? (i := 71) rfl)
theorem uz_1470 : vz_1470 ∈ lw_tbl := sub_16 (List.mem_of_getElem? (i := 72) rfl)
theorem uz_1471 : vz_1471 ∈ lw_tbl := sub_16 (List.mem_of_getElem? (i := 73) rfl)
theorem uz_1472 : vz_1472 ∈ lw_tbl := sub_13 (List.mem_of_getElem? (i := 214) rfl)
theorem uz_1473 : vz_1473 ∈ lw_tbl := sub_16 (List.mem_of_getElem? (i := 78) rfl)
theorem uz_1474 : vz_1474 ∈ lw_tbl := sub_16 (List.mem_of_getElem? (i := 95) rfl)
theorem uz_1475 : vz_1475 ∈ lw_tbl := sub_14 (List.mem_of_getElem? (i := 82) rfl)
theorem uz_1476 : vz_1476 ∈ lw_tbl := sub_1 (List.mem_of_getElem? (i := 33) rfl)
theorem uz_1477 : vz_1477 ∈ lw_tbl := sub_14 (List.mem_of_getElem? (i := 85) rfl)
theorem uz_1478 : vz_1478 ∈ lw_tbl := sub_14 (List.mem_of_getElem? (i := 84) rfl)
theorem uz_1479 : vz_1479 ∈ lw_tbl := List.mem_append_left _ (List.mem_map.mpr ⟨_, pv_18 (List.mem_of_getElem? (i := 9) rfl), rfl⟩)
theorem uz_1480 : vz_1480 ∈ lw_tbl := sub_14 (List.mem_of_getElem? (i := 158) rfl)
theorem uz_1481 : vz_1481 ∈ lw_tbl := sub_14 (List.mem_of_getElem? (i := 161) rfl)
theorem uz_1482 : vz_1482 ∈ lw_tbl := sub_14 (List.mem_of_getElem? (i := 160) rfl)
theorem uz_1483 : vz_1483 ∈ lw_tbl := List.mem_append_left _ (List.mem_map.mpr ⟨_, pv_19 (List.mem_of_getElem? (i := 12) rfl), rfl⟩)
theorem uz_1484 : vz_1484 ∈ lw_tbl := sub_16 (List.mem_of_getElem? (i := 94) rfl)
theorem uz_1485 : vz_1485 ∈ lw_tbl := sub_16 (List.mem_of_getElem? (i := 80) rfl)
theorem uz_1486 : vz_1486 ∈ lw_tbl := sub_14 (List.mem_of_getElem? (i := 90) rfl)
theorem uz_1487 : vz_1487 ∈ lw_tbl := sub_14 (List.mem_of_getElem? (i := 93) rfl)
theorem uz_1488 : vz_1488 ∈ lw_tbl := sub_14 (List.mem_of_getElem? (i := 92) rfl)
theorem uz_1489 : vz_1489 ∈ lw_tbl := List.mem_append_left _ (List.mem_map.mpr ⟨_, pv_18 (List.mem_of_getElem? (i := 11) rfl), rfl⟩)
theorem uz_1490 : vz_1490 ∈ lw_tbl := sub_14 (List.mem_of_getElem? (i := 98) rfl)
theorem uz_1491 : vz_1491 ∈ lw_tbl := sub_14 (List.mem_of_getElem? (i := 101) rfl)
theorem uz_1492 : vz_1492 ∈ lw_tbl := sub_14 (List.mem_of_getElem? (i := 100) rfl)
theorem uz_1493 : vz_1493 ∈ lw_tbl := List.mem_append_left _ (List.mem_map.mpr ⟨_, pv_18 (List.mem_of_getElem? (i := 13) rfl), rfl⟩)
theorem uz_1494 : vz_1494 ∈ lw_tbl := sub_14 (List.mem_of_getElem? (i := 114) rfl)
theorem uz_1495 : vz_1495 ∈ lw_tbl := sub_14 (List.mem_of_getElem? (i := 117) rfl)
theorem uz_1496 : vz_1496 ∈ lw_tbl := sub_14 (List.mem_of_getElem? (i := 116) rfl)
theorem uz_1497 : vz_1497 ∈ lw_tbl := List.mem_append_left _ (List.mem_map.mpr ⟨_, pv_19 (List.mem_of_getElem? (i := 1) rfl), rfl⟩)
theorem uz_1498 : vz_1498 ∈ lw_tbl := sub_16 (List.mem_of_getElem? (i := 89) rfl)
theorem uz_1499 : vz_1499 ∈ lw_tbl := sub_14 (List.mem_of_getElem? (i := 118) rfl)
theorem uz_1500 : vz_1500 ∈ lw_tbl := sub_14 (List.mem_of_getElem? (i := 121) rfl)
theorem uz_1501 : vz_1501 ∈ lw_tbl := sub_14 (List.mem_of_getElem? (i := 120) rfl)
theorem uz_1502 : vz_1502 ∈ lw_tbl := List.mem_append_left _ (List.mem_map.mpr ⟨_, pv_19 (List.mem_of_getElem? (i := 2) rfl), rfl⟩)
theorem uz_1503 : vz_1503 ∈ lw_tbl := sub_14 (List.mem_of_getElem? (i := 126) rfl)
theorem uz_1504 : vz_1504 ∈ lw_tbl := sub_14 (List.mem_of_getElem? (i := 129) rfl)
theorem uz_1505 : vz_1505 ∈ lw_tbl := sub_14 (List.mem_of_getElem? (i := 128) rfl)
theorem uz_1506 : vz_1506 ∈ lw_tbl := List.mem_append_left _ (List.mem_map.mpr ⟨_, pv_19 (List.mem_of_getElem? (i := 4) rfl), rfl⟩)
theorem uz_1507 : vz_1507 ∈ lw_tbl := sub_16 (List.mem_of_getElem? (i := 87) rfl)
theorem uz_1508 : vz_1508 ∈ lw_tbl := sub_16 (List.mem_of_getElem? (i := 91) rfl)
theorem uz_1509 : vz_1509 ∈ lw_tbl := sub_16 (List.mem_of_getElem? (i := 88) rfl)
theorem uz_1510 : vz_1510 ∈ lw_tbl := sub_16 (List.mem_of_getElem? (i := 112) rfl)
theorem uz_1511 : vz_1511 ∈ lw_tbl := sub_16 (List.mem_of_getElem? (i := 116) rfl)
theorem uz_1512 : vz_1512 ∈ lw_tbl := sub_16 (List.mem_of_getElem? (i := 113) rfl)
theorem uz_1513 : vz_1513 ∈ lw_tbl := sub_16 (List.mem_of_getElem? (i := 114) rfl)
theorem uz_1514 : vz_1514 ∈ lw_tbl := sub_16 (List.mem_of_getElem? (i := 115) rfl)
theorem uz_1515 : vz_1515 ∈ lw_tbl := sub_16 (List.mem_of_getElem? (i := 99) rfl)
theorem uz_1516 : vz_1516 ∈ lw_tbl := sub_16 (List.mem_of_getElem? (i := 111) rfl)
theorem uz_1517 : vz_1517 ∈ lw_tbl := sub_16 (List.mem_of_getElem? (i := 92) rfl)
theorem uz_1518 : vz_1518 ∈ lw_tbl := sub_13 (List.mem_of_getElem? (i := 231) rfl)
theorem uz_1519 : vz_1519 ∈ lw_tbl := sub_13 (List.mem_of_getElem? (i := 234) rfl)
theorem uz_1520 : vz_1520 ∈ lw_tbl := sub_13 (List.mem_of_getElem? (i := 233) rfl)
theorem uz_1521 : vz_1521 ∈ lw_tbl := List.mem_append_left _ (List.mem_map.mpr ⟨_, pv_17 (List.mem_of_getElem? (i := 8) rfl), rfl⟩)
theorem uz_1522 : vz_1522 ∈ lw_tbl := sub_16 (List.mem_of_getElem? (i := 100) rfl)
theorem uz_1523 : vz_1523 ∈ lw_tbl := sub_14 (List.mem_of_getElem? (i := 134) rfl)
theorem uz_1524 : vz_1524 ∈ lw_tbl := sub_14 (List.mem_of_getElem? (i := 137) rfl)
theorem uz_1525 : vz_1525 ∈ lw_tbl := sub_14 (List.mem_of_getElem? (i := 136) rfl)
theorem uz_1526 : vz_1526 ∈ lw_tbl := List.mem_append_left _ (List.mem_map.mpr ⟨_, pv_19 (List.mem_of_getElem? (i := 6) rfl), rfl⟩)
theorem uz_1527 : vz_1527 ∈ lw_tbl := sub_13 (List.mem_of_getElem? (i := 235) rfl)
theorem uz_1528 : vz_1528 ∈ lw_tbl := sub_13 (List.mem_of_getElem? (i := 238) rfl)
theorem uz_1529 : vz_1529 ∈ lw_tbl := sub_13 (List.mem_of_getElem? (i := 237) rfl)
theorem uz_1530 : vz_1530 ∈ lw_tbl := List.mem_append_left _ (List.mem_map.mpr ⟨_, pv_17 (List.mem_of_getElem? (i := 9) rfl), rfl⟩)
theorem uz_1531 : vz_1531 ∈ lw_tbl := sub_16 (List.mem_of_getElem? (i := 90) rfl)
theorem uz_1532 : vz_1532 ∈ lw_tbl := sub_16 (List.mem_of_getElem? (i := 101) rfl)
theorem uz_1533 : vz_1533 ∈ lw_tbl := sub_16 (List.mem_of_getElem? (i := 124) rfl)
theorem uz_1534 : vz_1534 ∈ lw_tbl := sub_16 (List.mem_of_getElem? (i := 117) rfl)
theorem uz_1535 : vz_1535 ∈ lw_tbl := sub_16 (List.mem_of_getElem? (i := 118) rfl)
theorem uz_1536 : vz_1536 ∈ lw_tbl := sub_16 (List.mem_of_getElem? (i := 107) rfl)
theorem uz_1537 : vz_1537 ∈ lw_tbl := sub_16 (List.mem_of_getElem? (i := 108) rfl)
theorem uz_1538 : vz_1538 ∈ lw_tbl := sub_16 (List.mem_of_getElem? (i := 109) rfl)
theorem uz_1539 : vz_1539 ∈ lw_tbl := sub_16 (List.mem_of_getElem? (i := 110) rfl)
theorem uz_1540 : vz_1540 ∈ lw_tbl := sub_16 (List.mem_of_getElem? (i := 81) rfl)
theorem uz_1541 : vz_1541 ∈ lw_tbl := sub_16 (List.mem_of_getElem? (i := 83) rfl)
theorem uz_1542 : vz_1542 ∈ lw_tbl := sub_14 (List.mem_of_getElem? (i := 70) rfl)
theorem uz_1543 : vz_1543 ∈ lw_tbl := sub_14 (List.mem_of_getElem? (i := 73) rfl)
theorem uz_1544 : vz_1544 ∈ lw_tbl := sub_14 (List.mem_of_getElem? (i := 72) rfl)
theorem uz_1545 : vz_1545 ∈ lw_tbl := List.mem_append_left _ (List.mem_map.mpr ⟨_, pv_18 (List.mem_of_getElem? (i := 6) rfl), rfl⟩)
theorem uz_1546 : vz_1546 ∈ lw_tbl := sub_16 (List.mem_of_getElem? (i := 102) rfl)
theorem uz_1547 : vz_1547 ∈ lw_tbl := sub_16 (List.mem_of_getElem? (i := 103) rfl)
theorem uz_1548 : vz_1548 ∈ lw_tbl := sub_16 (List.mem_of_getElem? (i := 120) rfl)
theorem uz_1549 : vz_1549 ∈ lw_tbl := sub_16 (List.mem_of_getElem? (i := 122) rfl)
theorem uz_1550 : vz_1550 ∈ lw_tbl := sub_16 (List.mem_of_getElem? (i := 121) rfl)
theorem uz_1551 : vz_1551 ∈ lw_tbl := sub_15 (List.mem_of_getElem? (i := 93) rfl)
theorem uz_1552 : vz_1552 ∈ lw_tbl := sub_15 (List.mem_of_getElem? (i := 96) rfl)
theorem uz_1553 : vz_1553 ∈ lw_tbl := sub_15 (List.mem_of_getElem? (i := 95) rfl)
theorem uz_1554 : vz_1554 ∈ lw_tbl := List.mem_append_left _ (List.mem_map.mpr ⟨_, pv_22 (List.mem_of_getElem? (i := 7) rfl), rfl⟩)
theorem uz_1555 : vz_1555 ∈ lw_tbl := sub_15 (List.mem_of_getElem? (i := 97) rfl)
theorem uz_1556 : vz_1556 ∈ lw_tbl := sub_15 (List.mem_of_getElem? (i := 100) rfl)
theorem uz_1557 : vz_1557 ∈ lw_tbl := sub_15 (List.mem_of_getElem? (i := 99) rfl)
theorem uz_1558 : vz_1558 ∈ lw_tbl := List.mem_append_left _ (List.mem_map.mpr ⟨_, pv_22 (List.mem_of_getElem? (i := 8) rfl), rfl⟩)
theorem uz_1559 : vz_1559 ∈ lw_tbl := sub_15 (List.mem_of_getElem? (i := 101) rfl)
theorem uz_1560 : vz_1560 ∈ lw_tbl := sub_16 (List.mem_of_getElem? (i := 74) rfl)
theorem uz_1561 : vz_1561 ∈ lw_tbl := sub_16 (List.mem_of_getElem? (i := 69) rfl)
theorem uz_1562 : vz_1562 ∈ lw_tbl := sub_16 (List.mem_of_getElem? (i := 75) rfl)
theorem uz_1563 : vz_1563 ∈ lw_tbl := sub_13 (List.mem_of_getElem? (i := 223) rfl)
theorem uz_1564 : vz_1564 ∈ lw_tbl := sub_13 (List.mem_of_getElem? (i := 226) rfl)
theorem uz_1565 : vz_1565 ∈ lw_tbl := sub_13 (List.mem_of_getElem? (i := 225) rfl)
theorem uz_1566 : vz_1566 ∈ lw_tbl := List.mem_append_left _ (List.mem_map.mpr ⟨_, pv_17 (List.mem_of_getElem? (i := 6) rfl), rfl⟩)
theorem uz_1567 : vz_1567 ∈ lw_tbl := sub_16 (List.mem_of_getElem? (i := 176) rfl)
theorem uz_1568 : vz_1568 ∈ lw_tbl := sub_16 (List.mem_of_getElem? (i := 175) rfl)
theorem uz_1569 : vz_1569 ∈ lw_tbl := sub_16 (List.mem_of_getElem? (i := 76) rfl)
theorem uz_1570 : vz_1570 ∈ lw_tbl := sub_16 (List.mem_of_getElem? (i := 77) rfl)
theorem uz_1571 : vz_1571 ∈ lw_tbl := sub_14 (List.mem_of_getElem? (i := 218) rfl)
theorem uz_1572 : vz_1572 ∈ lw_tbl := sub_14 (List.mem_of_getElem? (i := 221) rfl)
theorem uz_1573 : vz_1573 ∈ lw_tbl := sub_14 (List.mem_of_getElem? (i := 220) rfl)
theorem uz_1574 : vz_1574 ∈ lw_tbl := List.mem_append_left _ (List.mem_map.mpr ⟨_, pv_20 (List.mem_of_getElem? (i := 11) rfl), rfl⟩)
theorem uz_1575 : vz_1575 ∈ lw_tbl := sub_14 (List.mem_of_getElem? (i := 130) rfl)
theorem uz_1576 : vz_1576 ∈ lw_tbl := sub_14 (List.mem_of_getElem? (i := 133) rfl)
theorem uz_1577 : vz_1577 ∈ lw_tbl := sub_14 (List.mem_of_getElem? (i := 132) rfl)
theorem uz_1578 : vz_1578 ∈ lw_tbl := List.mem_append_left _ (List.mem_map.mpr ⟨_, pv_19 (List.mem_of_getElem? (i := 5) rfl), rfl⟩)
theorem uz_1579 : vz_1579 ∈ lw_tbl := sub_14 (List.mem_of_getElem? (i := 222) rfl)
theorem uz_1580 : vz_1580 ∈ lw_tbl := sub_14 (List.mem_of_getElem? (i := 225) rfl)
theorem uz_1581 : vz_1581 ∈ lw_tbl := sub_14 (List.mem_of_getElem? (i := 224) rfl)
theorem uz_1582 : vz_1582 ∈ lw_tbl := List.mem_append_left _ (List.mem_map.mpr ⟨_, pv_20 (List.mem_of_getElem? (i := 12) rfl), rfl⟩)
theorem uz_1583 : vz_1583 ∈ lw_tbl := sub_14 (List.mem_of_getElem? (i := 186) rfl)
theorem uz_1584 : vz_1584 ∈ lw_tbl := sub_14 (List.mem_of_getElem? (i := 189) rfl)
theorem uz_1585 : vz_1585 ∈ lw_tbl := sub_14 (List.mem_of_getElem? (i := 188) rfl)
theorem uz_1586 : vz_1586 ∈ lw_tbl := List.mem_append_left _ (List.mem_map.mpr ⟨_, pv_20 (List.mem_of_getElem? (i := 3) rfl), rfl⟩)
theorem uz_1587 : vz_1587 ∈ lw_tbl := sub_14 (List.mem_of_getElem? (i := 202) rfl)
theorem uz_1588 : vz_1588 ∈ lw_tbl := sub_14 (List.mem_of_getElem? (i := 205) rfl)
theorem uz_1589 : vz_1589 ∈ lw_tbl := sub_14 (List.mem_of_getElem? (i := 204) rfl)
theorem uz_1590 : vz_1590 ∈ lw_tbl := List.mem_append_left _ (List.mem_map.mpr ⟨_, pv_20 (List.mem_of_getElem? (i := 7) rfl), rfl⟩)
theorem uz_1591 : vz_1591 ∈ lw_tbl := sub_14 (List.mem_of_getElem? (i := 110) rfl)
theorem uz_1592 : vz_1592 ∈ lw_tbl := sub_14 (List.mem_of_getElem? (i := 113) rfl)
theorem uz_1593 : vz_1593 ∈ lw_tbl := sub_14 (List.mem_of_getElem? (i := 112) rfl)
theorem uz_1594 : vz_1594 ∈ lw_tbl := List.mem_append_left _ (List.mem_map.mpr ⟨_, pv_19 (List.mem_of_getElem? (i := 0) rfl), rfl⟩)
theorem uz_1595 : vz_1595 ∈ lw_tbl := sub_14 (List.mem_of_getElem? (i := 106) rfl)
theorem uz_1596 : vz_1596 ∈ lw_tbl := sub_14 (List.mem_of_getElem? (i := 109) rfl)
theorem uz_1597 : vz_1597 ∈ lw_tbl := sub_14 (List.mem_of_getElem? (i := 108) rfl)
theorem uz_1598 : vz_1598 ∈ lw_tbl := List.mem_append_left _ (List.mem_map.mpr ⟨_, pv_18 (List.mem_of_getElem? (i := 15) rfl), rfl⟩)
theorem uz_1599 : vz_1599 ∈ lw_tbl := sub_16 (List.mem_of_getElem? (i := 130) rfl)
theorem uz_1600 : vz_1600 ∈ lw_tbl := sub_16 (List.mem_of_getElem? (i := 136) rfl)
theorem uz_1601 : vz_1601 ∈ lw_tbl := sub_21 (List.mem_of_getElem? (i := 68) rfl)
theorem uz_1602 : vz_1602 ∈ lw_tbl := sub_21 (List.mem_of_getElem? (i := 71) rfl)
theorem uz_1603 : vz_1603 ∈ lw_tbl := sub_21 (List.mem_of_getElem? (i := 70) rfl)
theorem uz_1604 : vz_1604 ∈ lw_tbl := List.mem_append_left _ (List.mem_map.mpr ⟨_, pv_32 (List.mem_of_getElem? (i := 9) rfl), rfl⟩)
theorem uz_1605 : vz_1605 ∈ lw_tbl := sub_16 (List.mem_of_getElem? (i := 93) rfl)
theorem uz_1606 : vz_1606 ∈ lw_tbl := sub_15 (List.mem_of_getElem? (i := 69) rfl)
theorem uz_1607 : vz_1607 ∈ lw_tbl := sub_15 (List.mem_of_getElem? (i := 72) rfl)
theorem uz_1608 : vz_1608 ∈ lw_tbl := sub_15 (List.mem_of_getElem? (i := 71) rfl)
theorem uz_1609 : vz_1609 ∈ lw_tbl := List.mem_append_left _ (List.mem_map.mpr ⟨_, pv_22 (List.mem_of_getElem? (i := 1) rfl), rfl⟩)
theorem uz_1610 : vz_1610 ∈ lw_tbl := sub_15 (List.mem_of_getElem? (i := 85) rfl)
theorem uz_1611 : vz_1611 ∈ lw_tbl := sub_15 (List.mem_of_getElem? (i := 88) rfl)
theorem uz_1612 : vz_1612 ∈ lw_tbl := sub_15 (List.mem_of_getElem? (i := 87) rfl)
theorem uz_1613 : vz_1613 ∈ lw_tbl := List.mem_append_left _ (List.mem_map.mpr ⟨_, pv_22 (List.mem_of_getElem? (i := 5) rfl), rfl⟩)
theorem uz_1614 : vz_1614 ∈ lw_tbl := sub_16 (List.mem_of_getElem? (i := 170) rfl)
theorem uz_1615 : vz_1615 ∈ lw_tbl := sub_16 (List.mem_of_getElem? (i := 37) rfl)
theorem uz_1616 : vz_1616 ∈ lw_tbl := sub_16 (List.mem_of_getElem? (i := 40) rfl)
theorem uz_1617 : vz_1617 ∈ lw_tbl := sub_16 (List.mem_of_getElem? (i := 39) rfl)
theorem uz_1618 : vz_1618 ∈ lw_tbl := List.mem_append_left _ (List.mem_map.mpr ⟨_, pv_25 (List.mem_of_getElem? (i := 4) rfl), rfl⟩)
theorem uz_1619 : vz_1619 ∈ lw_tbl := sub_16 (List.mem_of_getElem? (i := 169) rfl)
theorem uz_1620 : vz_1620 ∈ lw_tbl := sub_16 (List.mem_of_getElem? (i := 25) rfl)
theorem uz_1621 : vz_1621 ∈ lw_tbl := sub_16 (List.mem_of_getElem? (i := 28) rfl)
theorem uz_1622 : vz_1622 ∈ lw_tbl := sub_16 (List.mem_of_getElem? (i := 27) rfl)
theorem uz_1623 : vz_1623 ∈ lw_tbl := List.mem_append_left _ (List.mem_map.mpr ⟨_, pv_25 (List.mem_of_getElem? (i := 1) rfl), rfl⟩)
theorem uz_1624 : vz_1624 ∈ lw_tbl := sub_16 (List.mem_of_getElem? (i := 167) rfl)
theorem uz_1625 : vz_1625 ∈ lw_tbl := sub_16 (List.mem_of_getElem? (i := 41) rfl)
theorem uz_1626 : vz_1626 ∈ lw_tbl := sub_16 (List.mem_of_getElem? (i := 44) rfl)
theorem uz_1627 : vz_1627 ∈ lw_tbl := sub_16 (List.mem_of_getElem? (i := 43) rfl)
theorem uz_1628 : vz_1628 ∈ lw_tbl := List.mem_append_left _ (List.mem_map.mpr ⟨_, pv_25 (List.mem_of_getElem? (i := 5) rfl), rfl⟩)
theorem uz_1629 : vz_1629 ∈ lw_tbl := sub_16 (List.mem_of_getElem? (i := 139) rfl)
theorem uz_1630 : vz_1630 ∈ lw_tbl := sub_16 (List.mem_of_getElem? (i := 138) rfl)
theorem uz_1631 : vz_1631 ∈ lw_tbl := sub_15 (List.mem_of_getElem? (i := 73) rfl)
theorem uz_1632 : vz_1632 ∈ lw_tbl := sub_15 (List.mem_of_getElem? (i := 76) rfl)
theorem uz_1633 : vz_1633 ∈ lw_tbl := sub_15 (List.mem_of_getElem? (i := 75) rfl)
theorem uz_1634 : vz_1634 ∈ lw_tbl := List.mem_append_left _ (List.mem_map.mpr ⟨_, pv_22 (List.mem_of_getElem? (i := 2) rfl), rfl⟩)
theorem uz_1635 : vz_1635 ∈ lw_tbl := sub_15 (List.mem_of_getElem? (i := 77) rfl)
theorem uz_1636 : vz_1636 ∈ lw_tbl := sub_15 (List.mem_of_getElem? (i := 80) rfl)
theorem uz_1637 : vz_1637 ∈ lw_tbl := sub_15 (List.mem_of_getElem? (i := 79) rfl)
theorem uz_1638 : vz_1638 ∈ lw_tbl := List.mem_append_left _ (List.mem_map.mpr ⟨_, pv_22 (List.mem_of_getElem? (i := 3) rfl), rfl⟩)
theorem uz_1639 : vz_1639 ∈ lw_tbl := sub_17 (List.mem_of_getElem? (i := 60) rfl)
theorem uz_1640 : vz_1640 ∈ lw_tbl := sub_16 (List.mem_of_getElem? (i := 171) rfl)
theorem uz_1641 : vz_1641 ∈ lw_tbl := sub_16 (List.mem_of_getElem? (i := 172) rfl)
theorem uz_1642 : vz_1642 ∈ lw_tbl := sub_16 (List.mem_of_getElem? (i := 9) rfl)
theorem uz_1643 : vz_1643 ∈ lw_tbl := sub_16 (List.mem_of_getElem? (i := 12) rfl)
theorem uz_1644 : vz_1644 ∈ lw_tbl := sub_16 (List.mem_of_getElem? (i := 11) rfl)
theorem uz_1645 : vz_1645 ∈ lw_tbl := List.mem_append_left _ (List.mem_map.mpr ⟨_, pv_24 (List.mem_of_getElem? (i := 13) rfl), rfl⟩)
theorem uz_1646 : vz_1646 ∈ lw_tbl := sub_16 (List.mem_of_getElem? (i := 13) rfl)
theorem uz_1647 : vz_1647 ∈ lw_tbl := sub_16 (List.mem_of_getElem? (i := 16) rfl)
theorem uz_1648 : vz_1648 ∈ lw_tbl := sub_16 (List.mem_of_getElem? (i := 15) rfl)
theorem uz_1649 : vz_1649 ∈ lw_tbl := List.mem_append_left _ (List.mem_map.mpr ⟨_, pv_24 (List.mem_of_getElem? (i := 14) rfl), rfl⟩)
theorem uz_1650 : vz_1650 ∈ lw_tbl := sub_16 (List.mem_of_getElem? (i := 160) rfl)
theorem uz_1651 : vz_1651 ∈ lw_tbl := sub_16 (List.mem_of_getElem? (i := 161) rfl)
theorem uz_1652 : vz_1652 ∈ lw_tbl := sub_16 (List.mem_of_getElem? (i := 162) rfl)
theorem uz_1653 : vz_1653 ∈ lw_tbl := sub_21 (List.mem_of_getElem? (i := 37) rfl)
theorem uz_1654 : vz_1654 ∈ lw_tbl := sub_21 (List.mem_of_getElem? (i := 40) rfl)
theorem uz_1655 : vz_1655 ∈ lw_tbl := sub_21 (List.mem_of_getElem? (i := 39) rfl)
theorem uz_1656 : vz_1656 ∈ lw_tbl := List.mem_append_left _ (List.mem_map.mpr ⟨_, pv_32 (List.mem_of_getElem? (i := 3) rfl), rfl⟩)
theorem uz_1657 : vz_1657 ∈ lw_tbl := sub_21 (List.mem_of_getElem? (i := 33) rfl)
theorem uz_1658 : vz_1658 ∈ lw_tbl := sub_21 (List.mem_of_getElem? (i := 36) rfl)
theorem uz_1659 : vz_1659 ∈ lw_tbl := sub_21 (List.mem_of_getElem? (i := 35) rfl)
theorem uz_1660 : vz_1660 ∈ lw_tbl := List.mem_append_left _ (List.mem_map.mpr ⟨_, pv_32 (List.mem_of_getElem? (i := 2) rfl), rfl⟩)
theorem uz_1661 : vz_1661 ∈ lw_tbl := sub_15 (List.mem_of_getElem? (i := 106) rfl)
theorem uz_1662 : vz_1662 ∈ lw_tbl := sub_15 (List.mem_of_getElem? (i := 109) rfl)
theorem uz_1663 : vz_1663 ∈ lw_tbl := sub_15 (List.mem_of_getElem? (i := 108) rfl)
theorem uz_1664 : vz_1664 ∈ lw_tbl := List.mem_append_left _ (List.mem_map.mpr ⟨_, pv_22 (List.mem_of_getElem? (i := 10) rfl), rfl⟩)
theorem uz_1665 : vz_1665 ∈ lw_tbl := sub_16 (List.mem_of_getElem? (i := 97) rfl)
theorem uz_1666 : vz_1666 ∈ lw_tbl := sub_16 (List.mem_of_getElem? (i := 126) rfl)
theorem uz_1667 : vz_1667 ∈ lw_tbl := sub_16 (List.mem_of_getElem? (i := 128) rfl)
theorem uz_1668 : vz_1668 ∈ lw_tbl := sub_16 (List.mem_of_getElem? (i := 129) rfl)
theorem uz_1669 : vz_1669 ∈ lw_tbl := sub_16 (List.mem_of_getElem? (i := 158) rfl)
theorem uz_1670 : vz_1670 ∈ lw_tbl := sub_16 (List.mem_of_getElem? (i := 159) rfl)
theorem uz_1671 : vz_1671 ∈ lw_tbl := sub_21 (List.mem_of_getElem? (i := 25) rfl)
theorem uz_1672 : vz_1672 ∈ lw_tbl := sub_21 (List.mem_of_getElem? (i := 28) rfl)
theorem uz_1673 : vz_1673 ∈ lw_tbl := sub_21 (List.mem_of_getElem? (i := 27) rfl)
theorem uz_1674 : vz_1674 ∈ lw_tbl := List.mem_append_left _ (List.mem_map.mpr ⟨_, pv_32 (List.mem_of_getElem? (i := 1) rfl), rfl⟩)
theorem uz_1675 : vz_1675 ∈ lw_tbl := sub_14 (List.mem_of_getElem? (i := 94) rfl)
theorem uz_1676 : vz_1676 ∈ lw_tbl := sub_14 (List.mem_of_getElem? (i := 97) rfl)
theorem uz_1677 : vz_1677 ∈ lw_tbl := sub_14 (List.mem_of_getElem? (i := 96) rfl)
theorem uz_1678 : vz_1678 ∈ lw_tbl := List.mem_append_left _ (List.mem_map.mpr ⟨_, pv_18 (List.mem_of_getElem? (i := 12) rfl), rfl⟩)
theorem uz_1679 : vz_1679 ∈ lw_tbl := sub_14 (List.mem_of_getElem? (i := 102) rfl)
theorem uz_1680 : vz_1680 ∈ lw_tbl := sub_14 (List.mem_of_getElem? (i := 105) rfl)
theorem uz_1681 : vz_1681 ∈ lw_tbl := sub_14 (List.mem_of_getElem? (i := 104) rfl)
theorem uz_1682 : vz_1682 ∈ lw_tbl := List.mem_append_left _ (List.mem_map.mpr ⟨_, pv_18 (List.mem_of_getElem? (i := 14) rfl), rfl⟩)
theorem uz_1683 : vz_1683 ∈ lw_tbl := sub_14 (List.mem_of_getElem? (i := 86) rfl)
theorem uz_1684 : vz_1684 ∈ lw_tbl := sub_14 (List.mem_of_getElem? (i := 89) rfl)
theorem uz_1685 : vz_1685 ∈ lw_tbl := sub_14 (List.mem_of_getElem? (i := 88) rfl)
theorem uz_1686 : vz_1686 ∈ lw_tbl := List.mem_append_left _ (List.mem_map.mpr ⟨_, pv_18 (List.mem_of_getElem? (i := 10) rfl), rfl⟩)
theorem uz_1687 : vz_1687 ∈ lw_tbl := sub_14 (List.mem_of_getElem? (i := 138) rfl)
theorem uz_1688 : vz_1688 ∈ lw_tbl := sub_14 (List.mem_of_getElem? (i := 141) rfl)
theorem uz_1689 : vz_1689 ∈ lw_tbl := sub_14 (List.mem_of_getElem? (i := 140) rfl)
theorem uz_1690 : vz_1690 ∈ lw_tbl := List.mem_append_left _ (List.mem_map.mpr ⟨_, pv_19 (List.mem_of_getElem? (i := 7) rfl), rfl⟩)
theorem uz_1691 : vz_1691 ∈ lw_tbl := sub_14 (List.mem_of_getElem? (i := 146) rfl)
theorem uz_1692 : vz_1692 ∈ lw_tbl := sub_14 (List.mem_of_getElem? (i := 149) rfl)
theorem uz_1693 : vz_1693 ∈ lw_tbl := sub_14 (List.mem_of_getElem? (i := 148) rfl)
theorem uz_1694 : vz_1694 ∈ lw_tbl := List.mem_append_left _ (List.mem_map.mpr ⟨_, pv_19 (List.mem_of_getElem? (i := 9) rfl), rfl⟩)
theorem uz_1695 : vz_1695 ∈ lw_tbl := sub_14 (List.mem_of_getElem? (i := 150) rfl)
theorem uz_1696 : vz_1696 ∈ lw_tbl := sub_14 (List.mem_of_getElem? (i := 153) rfl)
theorem uz_1697 : vz_1697 ∈ lw_tbl := sub_14 (List.mem_of_getElem? (i := 152) rfl)
theorem uz_1698 : vz_1698 ∈ lw_tbl := List.mem_append_left _ (List.mem_map.mpr ⟨_, pv_19 (List.mem_of_getElem? (i := 10) rfl), rfl⟩)
theorem uz_1699 : vz_1699 ∈ lw_tbl := sub_16 (List.mem_of_getElem? (i := 98) rfl)
theorem uz_1700 : vz_1700 ∈ lw_tbl := sub_16 (List.mem_of_getElem? (i := 96) rfl)
theorem uz_1701 : vz_1701 ∈ lw_tbl := sub_14 (List.mem_of_getElem? (i := 190) rfl)
theorem uz_1702 : vz_1702 ∈ lw_tbl := sub_14 (List.mem_of_getElem? (i := 193) rfl)
theorem uz_1703 : vz_1703 ∈ lw_tbl := sub_14 (List.mem_of_getElem? (i := 192) rfl)
theorem uz_1704 : vz_1704 ∈ lw_tbl := List.mem_append_left _ (List.mem_map.mpr ⟨_, pv_20 (List.mem_of_getElem? (i := 4) rfl), rfl⟩)
theorem uz_1705 : vz_1705 ∈ lw_tbl := sub_16 (List.mem_of_getElem? (i := 168) rfl)
theorem uz_1706 : vz_1706 ∈ lw_tbl := sub_16 (List.mem_of_getElem? (i := 53) rfl)
theorem uz_1707 : vz_1707 ∈ lw_tbl := sub_16 (List.mem_of_getElem? (i := 56) rfl)
theorem uz_1708 : vz_1708 ∈ lw_tbl := sub_16 (List.mem_of_getElem? (i := 55) rfl)
theorem uz_1709 : vz_1709 ∈ lw_tbl := List.mem_append_left _ (List.mem_map.mpr ⟨_, pv_25 (List.mem_of_getElem? (i := 8) rfl), rfl⟩)
theorem uz_1710 : vz_1710 ∈ lw_tbl := sub_16 (List.mem_of_getElem? (i := 123) rfl)
theorem uz_1711 : vz_1711 ∈ lw_tbl := sub_16 (List.mem_of_getElem? (i := 104) rfl)
theorem uz_1712 : vz_1712 ∈ lw_tbl := sub_16 (List.mem_of_getElem? (i := 133) rfl)
theorem uz_1713 : vz_1713 ∈ lw_tbl := sub_16 (List.mem_of_getElem? (i := 135) rfl)
theorem uz_1714 : vz_1714 ∈ lw_tbl := sub_16 (List.mem_of_getElem? (i := 17) rfl)
theorem uz_1715 : vz_1715 ∈ lw_tbl := sub_16 (List.mem_of_getElem? (i := 20) rfl)
theorem uz_1716 : vz_1716 ∈ lw_tbl := sub_16 (List.mem_of_getElem? (i := 19) rfl)
theorem uz_1717 : vz_1717 ∈ lw_tbl := List.mem_append_left _ (List.mem_map.mpr ⟨_, pv_24 (List.mem_of_getElem? (i := 15) rfl), rfl⟩)
theorem uz_1718 : vz_1718 ∈ lw_tbl := sub_16 (List.mem_of_getElem? (i := 33) rfl)
theorem uz_1719 : vz_1719 ∈ lw_tbl := sub_16 (List.mem_of_getElem? (i := 36) rfl)
theorem uz_1720 : vz_1720 ∈ lw_tbl := sub_16 (List.mem_of_getElem? (i := 35) rfl)
theorem uz_1721 : vz_1721 ∈ lw_tbl := List.mem_append_left _ (List.mem_map.mpr ⟨_, pv_25 (List.mem_of_getElem? (i := 3) rfl), rfl⟩)
theorem uz_1722 : vz_1722 ∈ lw_tbl := sub_16 (List.mem_of_getElem? (i := 173) rfl)
theorem uz_1723 : vz_1723 ∈ lw_tbl := sub_16 (List.mem_of_getElem? (i := 5) rfl)
theorem uz_1724 : vz_1724 ∈ lw_tbl := sub_16 (List.mem_of_getElem? (i := 8) rfl)
theorem uz_1725 : vz_1725 ∈ lw_tbl := sub_16 (List.mem_of_getElem? (i := 7) rfl)
theorem uz_1726 : vz_1726 ∈ lw_tbl := List.mem_append_left _ (List.mem_map.mpr ⟨_, pv_24 (List.mem_of_getElem? (i := 12) rfl), rfl⟩)
theorem uz_1727 : vz_1727 ∈ lw_tbl := sub_14 (List.mem_of_getElem? (i := 154) rfl)
theorem uz_1728 : vz_1728 ∈ lw_tbl := sub_14 (List.mem_of_getElem? (i := 157) rfl)
theorem uz_1729 : vz_1729 ∈ lw_tbl := sub_14 (List.mem_of_getElem? (i := 156) rfl)
theorem uz_1730 : vz_1730 ∈ lw_tbl := List.mem_append_left _ (List.mem_map.mpr ⟨_, pv_19 (List.mem_of_getElem? (i := 11) rfl), rfl⟩)
theorem uz_1731 : vz_1731 ∈ lw_tbl := sub_14 (List.mem_of_getElem? (i := 142) rfl)
theorem uz_1732 : vz_1732 ∈ lw_tbl := sub_14 (List.mem_of_getElem? (i := 145) rfl)
theorem uz_1733 : vz_1733 ∈ lw_tbl := sub_14 (List.mem_of_getElem? (i := 144) rfl)
theorem uz_1734 : vz_1734 ∈ lw_tbl := List.mem_append_left _ (List.mem_map.mpr ⟨_, pv_19 (List.mem_of_getElem? (i := 8) rfl), rfl⟩)
theorem uz_1735 : vz_1735 ∈ lw_tbl := sub_14 (List.mem_of_getElem? (i := 31) rfl)
theorem uz_1736 : vz_1736 ∈ lw_tbl := sub_14 (List.mem_of_getElem? (i := 33) rfl)
theorem uz_1737 : vz_1737 ∈ lw_tbl := sub_14 (List.mem_of_getElem? (i := 32) rfl)
theorem uz_1738 : vz_1738 ∈ lw_tbl := sub_14 (List.mem_of_getElem? (i := 34) rfl)
theorem uz_1739 : vz_1739 ∈ lw_tbl := sub_14 (List.mem_of_getElem? (i := 36) rfl)
theorem uz_1740 : vz_1740 ∈ lw_tbl := sub_14 (List.mem_of_getElem? (i := 35) rfl)
theorem uz_1741 : vz_1741 ∈ lw_tbl := sub_14 (List.mem_of_getElem? (i := 40) rfl)
theorem uz_1742 : vz_1742 ∈ lw_tbl := sub_14 (List.mem_of_getElem? (i := 42) rfl)
theorem uz_1743 : vz_1743 ∈ lw_tbl := sub_14 (List.mem_of_getElem? (i := 41) rfl)
theorem uz_1744 : vz_1744 ∈ lw_tbl := sub_16 (List.mem_of_getElem? (i := 79) rfl)
theorem uz_1745 : vz_1745 ∈ lw_tbl := sub_14 (List.mem_of_getElem? (i := 14) rfl)
theorem uz_1746 : vz_1746 ∈ lw_tbl := sub_14 (List.mem_of_getElem? (i := 17) rfl)
theorem uz_1747 : vz_1747 ∈ lw_tbl := sub_14 (List.mem_of_getElem? (i := 16) rfl)
theorem uz_1748 : vz_1748 ∈ lw_tbl := List.mem_append_left _ (List.mem_map.mpr ⟨_, pv_17 (List.mem_of_getElem? (i := 13) rfl), rfl⟩)
theorem uz_1749 : vz_1749 ∈ lw_tbl := sub_14 (List.mem_of_getElem? (i := 22) rfl)
theorem uz_1750 : vz_1750 ∈ lw_tbl := sub_16 (List.mem_of_getElem? (i := 127) rfl)
theorem uz_1751 : vz_1751 ∈ lw_tbl := sub_16 (List.mem_of_getElem? (i := 134) rfl)
theorem uz_1752 : vz_1752 ∈ lw_tbl := sub_14 (List.mem_of_getElem? (i := 78) rfl)
theorem uz_1753 : vz_1753 ∈ lw_tbl := sub_14 (List.mem_of_getElem? (i := 81) rfl)
theorem uz_1754 : vz_1754 ∈ lw_tbl := sub_14 (List.mem_of_getElem? (i := 80) rfl)
theorem uz_1755 : vz_1755 ∈ lw_tbl := List.mem_append_left _ (List.mem_map.mpr ⟨_, pv_18 (List.mem_of_getElem? (i := 8) rfl), rfl⟩)
theorem uz_1756 : vz_1756 ∈ lw_tbl := sub_14 (List.mem_of_getElem? (i := 230) rfl)
theorem uz_1757 : vz_1757 ∈ lw_tbl := sub_14 (List.mem_of_getElem? (i := 233) rfl)
theorem uz_1758 : vz_1758 ∈ lw_tbl := sub_14 (List.mem_of_getElem? (i := 232) rfl)
theorem uz_1759 : vz_1759 ∈ lw_tbl := List.mem_append_left _ (List.mem_map.mpr ⟨_, pv_20 (List.mem_of_getElem? (i := 14) rfl), rfl⟩)
theorem uz_1760 : vz_1760 ∈ lw_tbl := sub_16 (List.mem_of_getElem? (i := 132) rfl)
theorem uz_1761 : vz_1761 ∈ lw_tbl := sub_15 (List.mem_of_getElem? (i := 57) rfl)
theorem uz_1762 : vz_1762 ∈ lw_tbl := sub_15 (List.mem_of_getElem? (i := 60) rfl)
theorem uz_1763 : vz_1763 ∈ lw_tbl := sub_15 (List.mem_of_getElem? (i := 59) rfl)
theorem uz_1764 : vz_1764 ∈ lw_tbl := List.mem_append_left _ (List.mem_map.mpr ⟨_, pv_21 (List.mem_of_getElem? (i := 14) rfl), rfl⟩)
theorem uz_1765 : vz_1765 ∈ lw_tbl := sub_15 (List.mem_of_getElem? (i := 41) rfl)
theorem uz_1766 : vz_1766 ∈ lw_tbl := sub_15 (List.mem_of_getElem? (i := 44) rfl)
theorem uz_1767 : vz_1767 ∈ lw_tbl := sub_15 (List.mem_of_getElem? (i := 43) rfl)
theorem uz_1768 : vz_1768 ∈ lw_tbl := List.mem_append_left _ (List.mem_map.mpr ⟨_, pv_21 (List.mem_of_getElem? (i := 10) rfl), rfl⟩)
theorem uz_1769 : vz_1769 ∈ lw_tbl := sub_15 (List.mem_of_getElem? (i := 30) rfl)
theorem uz_1770 : vz_1770 ∈ lw_tbl := sub_15 (List.mem_of_getElem? (i := 32) rfl)
theorem uz_1771 : vz_1771 ∈ lw_tbl := sub_15 (List.mem_of_getElem? (i := 31) rfl)
theorem uz_1772 : vz_1772 ∈ lw_tbl := sub_15 (List.mem_of_getElem? (i := 33) rfl)
theorem uz_1773 : vz_1773 ∈ lw_tbl := sub_15 (List.mem_of_getElem? (i := 36) rfl)
theorem uz_1774 : vz_1774 ∈ lw_tbl := sub_15 (List.mem_of_getElem? (i := 35) rfl)
theorem uz_1775 : vz_1775 ∈ lw_tbl := List.mem_append_left _ (List.mem_map.mpr ⟨_, pv_21 (List.mem_of_getElem? (i := 8) rfl), rfl⟩)
theorem uz_1776 : vz_1776 ∈ lw_tbl := sub_15 (List.mem_of_getElem? (i := 53) rfl)
theorem uz_1777 : vz_1777 ∈ lw_tbl := sub_15 (List.mem_of_getElem? (i := 56) rfl)
theorem uz_1778 : vz_1778 ∈ lw_tbl := sub_15 (List.mem_of_getElem? (i := 55) rfl)
theorem uz_1779 : vz_1779 ∈ lw_tbl := List.mem_append_left _ (List.mem_map.mpr ⟨_, pv_21 (List.mem_of_getElem? (i := 13) rfl), rfl⟩)
theorem uz_1780 : vz_1780 ∈ lw_tbl := sub_15 (List.mem_of_getElem? (i := 61) rfl)
theorem uz_1781 : vz_1781 ∈ lw_tbl := sub_15 (List.mem_of_getElem? (i := 64) rfl)
theorem uz_1782 : vz_1782 ∈ lw_tbl := sub_15 (List.mem_of_getElem? (i := 63) rfl)
theorem uz_1783 : vz_1783 ∈ lw_tbl := List.mem_append_left _ (List.mem_map.mpr ⟨_, pv_21 (List.mem_of_getElem? (i := 15) rfl), rfl⟩)
theorem uz_1784 : vz_1784 ∈ lw_tbl := sub_15 (List.mem_of_getElem? (i := 37) rfl)
theorem uz_1785 : vz_1785 ∈ lw_tbl := sub_15 (List.mem_of_getElem? (i := 40) rfl)
theorem uz_1786 : vz_1786 ∈ lw_tbl := sub_15 (List.mem_of_getElem? (i := 39) rfl)
theorem uz_1787 : vz_1787 ∈ lw_tbl := List.mem_append_left _ (List.mem_map.mpr ⟨_, pv_21 (List.mem_of_getElem? (i := 9) rfl), rfl⟩)
theorem uz_1788 : vz_1788 ∈ lw_tbl := sub_15 (List.mem_of_getElem? (i := 45) rfl)
theorem uz_1789 : vz_1789 ∈ lw_tbl := sub_15 (List.mem_of_getElem? (i := 48) rfl)
theorem uz_1790 : vz_1790 ∈ lw_tbl := sub_15 (List.mem_of_getElem? (i := 47) rfl)
theorem uz_1791 : vz_1791 ∈ lw_tbl := List.mem_append_left _ (List.mem_map.mpr ⟨_, pv_21 (List.mem_of_getElem? (i := 11) rfl), rfl⟩)
theorem uz_1792 : vz_1792 ∈ lw_tbl := sub_16 (List.mem_of_getElem? (i := 137) rfl)
theorem uz_1793 : vz_1793 ∈ lw_tbl := sub_15 (List.mem_of_getElem? (i := 14) rfl)
theorem uz_1794 : vz_1794 ∈ lw_tbl := sub_15 (List.mem_of_getElem? (i := 17) rfl)
theorem uz_1795 : vz_1795 ∈ lw_tbl := sub_15 (List.mem_of_getElem? (i := 16) rfl)
theorem uz_1796 : vz_1796 ∈ lw_tbl := List.mem_append_left _ (List.mem_map.mpr ⟨_, pv_21 (List.mem_of_getElem? (i := 4) rfl), rfl⟩)
theorem uz_1797 : vz_1797 ∈ lw_tbl := sub_16 (List.mem_of_getElem? (i := 119) rfl)
theorem uz_1798 : vz_1798 ∈ lw_tbl := sub_16 (List.mem_of_getElem? (i := 105) rfl)
theorem uz_1799 : vz_1799 ∈ lw_tbl := sub_16 (List.mem_of_getElem? (i := 106) rfl)
theorem uz_1800 : vz_1800 ∈ lw_tbl := sub_14 (List.mem_of_getElem? (i := 238) rfl)
theorem uz_1801 : vz_1801 ∈ lw_tbl := sub_15 (List.mem_of_getElem? (i := 1) rfl)
theorem uz_1802 : vz_1802 ∈ lw_tbl := sub_15 (List.mem_of_getElem? (i := 0) rfl)
theorem uz_1803 : vz_1803 ∈ lw_tbl := List.mem_append_left _ (List.mem_map.mpr ⟨_, pv_21 (List.mem_of_getElem? (i := 0) rfl), rfl⟩)
theorem uz_1804 : vz_1804 ∈ lw_tbl := sub_15 (List.mem_of_getElem? (i := 6) rfl)
theorem uz_1805 : vz_1805 ∈ lw_tbl := sub_15 (List.mem_of_getElem? (i := 9) rfl)
theorem uz_1806 : vz_1806 ∈ lw_tbl := sub_15 (List.mem_of_getElem? (i := 8) rfl)
theorem uz_1807 : vz_1807 ∈ lw_tbl := List.mem_append_left _ (List.mem_map.mpr ⟨_, pv_21 (List.mem_of_getElem? (i := 2) rfl), rfl⟩)
theorem uz_1808 : vz_1808 ∈ lw_tbl := sub_15 (List.mem_of_getElem? (i := 10) rfl)
theorem uz_1809 : vz_1809 ∈ lw_tbl := sub_15 (List.mem_of_getElem? (i := 13) rfl)
theorem uz_1810 : vz_1810 ∈ lw_tbl := sub_15 (List.mem_of_getElem? (i := 12) rfl)
theorem uz_1811 : vz_1811 ∈ lw_tbl := List.mem_append_left _ (List.mem_map.mpr ⟨_, pv_21 (List.mem_of_getElem? (i := 3) rfl), rfl⟩)
theorem uz_1812 : vz_1812 ∈ lw_tbl := sub_15 (List.mem_of_getElem? (i := 18) rfl)
theorem uz_1813 : vz_1813 ∈ lw_tbl := sub_15 (List.mem_of_getElem? (i := 21) rfl)
theorem uz_1814 : vz_1814 ∈ lw_tbl := sub_15 (List.mem_of_getElem? (i := 20) rfl)
theorem uz_1815 : vz_1815 ∈ lw_tbl := List.mem_append_left _ (List.mem_map.mpr ⟨_, pv_21 (List.mem_of_getElem? (i := 5) rfl), rfl⟩)
theorem uz_1816 : vz_1816 ∈ lw_tbl := sub_15 (List.mem_of_getElem? (i := 22) rfl)
theorem uz_1817 : vz_1817 ∈ lw_tbl := sub_15 (List.mem_of_getElem? (i := 25) rfl)
theorem uz_1818 : vz_1818 ∈ lw_tbl := sub_15 (List.mem_of_getElem? (i := 24) rfl)
theorem uz_1819 : vz_1819 ∈ lw_tbl := List.mem_append_left _ (List.mem_map.mpr ⟨_, pv_21 (List.mem_of_getElem? (i := 6) rfl), rfl⟩)
theorem uz_1820 : vz_1820 ∈ lw_tbl := sub_15 (List.mem_of_getElem? (i := 26) rfl)
theorem uz_1821 : vz_1821 ∈ lw_tbl := sub_15 (List.mem_of_getElem? (i := 29) rfl)
theorem uz_1822 : vz_1822 ∈ lw_tbl := sub_15 (List.mem_of_getElem? (i := 28) rfl)
theorem uz_1823 : vz_1823 ∈ lw_tbl := List.mem_append_left _ (List.mem_map.mpr ⟨_, pv_21 (List.mem_of_getElem? (i := 7) rfl), rfl⟩)
theorem uz_1824 : vz_1824 ∈ lw_tbl := sub_16 (List.mem_of_getElem? (i := 21) rfl)
theorem uz_1825 : vz_1825 ∈ lw_tbl := sub_16 (List.mem_of_getElem? (i := 24) rfl)
theorem uz_1826 : vz_1826 ∈ lw_tbl := sub_16 (List.mem_of_getElem? (i := 23) rfl)
theorem uz_1827 : vz_1827 ∈ lw_tbl := List.mem_append_left _ (List.mem_map.mpr ⟨_, pv_25 (List.mem_of_getElem? (i := 0) rfl), rfl⟩)
theorem uz_1828 : vz_1828 ∈ lw_tbl := sub_14 (List.mem_of_getElem? (i := 37) rfl)
theorem uz_1829 : vz_1829 ∈ lw_tbl := sub_14 (List.mem_of_getElem? (i := 39) rfl)
theorem uz_1830 : vz_1830 ∈ lw_tbl := sub_14 (List.mem_of_getElem? (i := 38) rfl)
theorem uz_1831 : vz_1831 ∈ lw_tbl := sub_14 (List.mem_of_getElem? (i := 43) rfl)
theorem uz_1832 : vz_1832 ∈ lw_tbl := sub_14 (List.mem_of_getElem? (i := 46) rfl)
theorem uz_1833 : vz_1833 ∈ lw_tbl := sub_14 (List.mem_of_getElem? (i := 45) rfl)
theorem uz_1834 : vz_1834 ∈ lw_tbl := List.mem_append_left _ (List.mem_map.mpr ⟨_, pv_18 (List.mem_of_getElem? (i := 0) rfl), rfl⟩)
theorem uz_1835 : vz_1835 ∈ lw_tbl := sub_14 (List.mem_of_getElem? (i := 49) rfl)
theorem uz_1836 : vz_1836 ∈ lw_tbl := sub_14 (List.mem_of_getElem? (i := 52) rfl)
theorem uz_1837 : vz_1837 ∈ lw_tbl := sub_14 (List.mem_of_getElem? (i := 51) rfl)
theorem uz_1838 : vz_1838 ∈ lw_tbl := List.mem_append_left _ (List.mem_map.mpr ⟨_, pv_18 (List.mem_of_getElem? (i := 1) rfl), rfl⟩)
theorem uz_1839 : vz_1839 ∈ lw_tbl := sub_14 (List.mem_of_getElem? (i := 23) rfl)
theorem uz_1840 : vz_1840 ∈ lw_tbl := sub_14 (List.mem_of_getElem? (i := 26) rfl)
theorem uz_1841 : vz_1841 ∈ lw_tbl := sub_14 (List.mem_of_getElem? (i := 25) rfl)
theorem uz_1842 : vz_1842 ∈ lw_tbl := List.mem_append_left _ (List.mem_map.mpr ⟨_, pv_17 (List.mem_of_getElem? (i := 14) rfl), rfl⟩)
theorem uz_1843 : vz_1843 ∈ lw_tbl := sub_14 (List.mem_of_getElem? (i := 18) rfl)
theorem uz_1844 : vz_1844 ∈ lw_tbl := sub_14 (List.mem_of_getElem? (i := 20) rfl)
theorem uz_1845 : vz_1845 ∈ lw_tbl := sub_14 (List.mem_of_getElem? (i := 19) rfl)
theorem uz_1846 : vz_1846 ∈ lw_tbl := sub_14 (List.mem_of_getElem? (i := 57) rfl)
theorem uz_1847 : vz_1847 ∈ lw_tbl := sub_14 (List.mem_of_getElem? (i := 60) rfl)
theorem uz_1848 : vz_1848 ∈ lw_tbl := sub_14 (List.mem_of_getElem? (i := 59) rfl)
theorem uz_1849 : vz_1849 ∈ lw_tbl := List.mem_append_left _ (List.mem_map.mpr ⟨_, pv_18 (List.mem_of_getElem? (i := 3) rfl), rfl⟩)
theorem uz_1850 : vz_1850 ∈ lw_tbl := sub_14 (List.mem_of_getElem? (i := 214) rfl)
theorem uz_1851 : vz_1851 ∈ lw_tbl := sub_14 (List.mem_of_getElem? (i := 217) rfl)
theorem uz_1852 : vz_1852 ∈ lw_tbl := sub_14 (List.mem_of_getElem? (i := 216) rfl)
theorem uz_1853 : vz_1853 ∈ lw_tbl := List.mem_append_left _ (List.mem_map.mpr ⟨_, pv_20 (List.mem_of_getElem? (i := 10) rfl), rfl⟩)
theorem uz_1854 : vz_1854 ∈ lw_tbl := sub_14 (List.mem_of_getElem? (i := 210) rfl)
theorem uz_1855 : vz_1855 ∈ lw_tbl := sub_14 (List.mem_of_getElem? (i := 213) rfl)
theorem uz_1856 : vz_1856 ∈ lw_tbl := sub_14 (List.mem_of_getElem? (i := 212) rfl)
theorem uz_1857 : vz_1857 ∈ lw_tbl := List.mem_append_left _ (List.mem_map.mpr ⟨_, pv_20 (List.mem_of_getElem? (i := 9) rfl), rfl⟩)
theorem uz_1858 : vz_1858 ∈ lw_tbl := sub_14 (List.mem_of_getElem? (i := 162) rfl)
theorem uz_1859 : vz_1859 ∈ lw_tbl := sub_14 (List.mem_of_getElem? (i := 165) rfl)
theorem uz_1860 : vz_1860 ∈ lw_tbl := sub_14 (List.mem_of_getElem? (i := 164) rfl)
theorem uz_1861 : vz_1861 ∈ lw_tbl := List.mem_append_left _ (List.mem_map.mpr ⟨_, pv_19 (List.mem_of_getElem? (i := 13) rfl), rfl⟩)
theorem uz_1862 : vz_1862 ∈ lw_tbl := sub_14 (List.mem_of_getElem? (i := 166) rfl)
theorem uz_1863 : vz_1863 ∈ lw_tbl := sub_14 (List.mem_of_getElem? (i := 169) rfl)
theorem uz_1864 : vz_1864 ∈ lw_tbl := sub_14 (List.mem_of_getElem? (i := 168) rfl)
theorem uz_1865 : vz_1865 ∈ lw_tbl := List.mem_append_left _ (List.mem_map.mpr ⟨_, pv_19 (List.mem_of_getElem? (i := 14) rfl), rfl⟩)
theorem uz_1866 : vz_1866 ∈ lw_tbl := sub_16 (List.mem_of_getElem? (i := 164) rfl)
theorem uz_1867 : vz_1867 ∈ lw_tbl := sub_16 (List.mem_of_getElem? (i := 165) rfl)
theorem uz_1868 : vz_1868 ∈ lw_tbl := sub_15 (List.mem_of_getElem? (i := 229) rfl)
theorem uz_1869 : vz_1869 ∈ lw_tbl := sub_15 (List.mem_of_getElem? (i := 232) rfl)
theorem uz_1870 : vz_1870 ∈ lw_tbl := sub_15 (List.mem_of_getElem? (i := 231) rfl)
theorem uz_1871 : vz_1871 ∈ lw_tbl := List.mem_append_left _ (List.mem_map.mpr ⟨_, pv_24 (List.mem_of_getElem? (i := 8) rfl), rfl⟩)
theorem uz_1872 : vz_1872 ∈ lw_tbl := sub_16 (List.mem_of_getElem? (i := 29) rfl)
theorem uz_1873 : vz_1873 ∈ lw_tbl := sub_16 (List.mem_of_getElem? (i := 32) rfl)
theorem uz_1874 : vz_1874 ∈ lw_tbl := sub_16 (List.mem_of_getElem? (i := 31) rfl)
theorem uz_1875 : vz_1875 ∈ lw_tbl := List.mem_append_left _ (List.mem_map.mpr ⟨_, pv_25 (List.mem_of_getElem? (i := 2) rfl), rfl⟩)
theorem uz_1876 : vz_1876 ∈ lw_tbl := sub_21 (List.mem_of_getElem? (i := 49) rfl)
theorem uz_1877 : vz_1877 ∈ lw_tbl := sub_21 (List.mem_of_getElem? (i := 52) rfl)
theorem uz_1878 : vz_1878 ∈ lw_tbl := sub_21 (List.mem_of_getElem? (i := 51) rfl)
theorem uz_1879 : vz_1879 ∈ lw_tbl := List.mem_append_left _ (List.mem_map.mpr ⟨_, pv_32 (List.mem_of_getElem? (i := 6) rfl), rfl⟩)
theorem uz_1880 : vz_1880 ∈ lw_tbl := sub_16 (List.mem_of_getElem? (i := 85) rfl)
theorem uz_1881 : vz_1881 ∈ lw_tbl := sub_16 (List.mem_of_getElem? (i := 86) rfl)
theorem uz_1882 : vz_1882 ∈ lw_tbl := sub_16 (List.mem_of_getElem? (i := 163) rfl)
theorem uz_1883 : vz_1883 ∈ lw_tbl := sub_16 (List.mem_of_getElem? (i := 166) rfl)
theorem uz_1884 : vz_1884 ∈ lw_tbl := sub_16 (List.mem_of_getElem? (i := 178) rfl)
theorem uz_1885 : vz_1885 ∈ lw_tbl := sub_14 (List.mem_of_getElem? (i := 0) rfl)
theorem uz_1886 : vz_1886 ∈ lw_tbl := sub_14 (List.mem_of_getElem? (i := 1) rfl)
theorem uz_1887 : vz_1887 ∈ lw_tbl := sub_14 (List.mem_of_getElem? (i := 2) rfl)
theorem uz_1888 : vz_1888 ∈ lw_tbl := sub_14 (List.mem_of_getElem? (i := 5) rfl)
theorem uz_1889 : vz_1889 ∈ lw_tbl := sub_14 (List.mem_of_getElem? (i := 4) rfl)
theorem uz_1890 : vz_1890 ∈ lw_tbl := List.mem_append_left _ (List.mem_map.mpr ⟨_, pv_17 (List.mem_of_getElem? (i := 10) rfl), rfl⟩)
theorem uz_1891 : vz_1891 ∈ lw_tbl := sub_16 (List.mem_of_getElem? (i := 125) rfl)
theorem uz_1892 : vz_1892 ∈ lw_tbl := sub_16 (List.mem_of_getElem? (i := 1) rfl)
theorem uz_1893 : vz_1893 ∈ lw_tbl := sub_16 (List.mem_of_getElem? (i := 4) rfl)
theorem uz_1894 : vz_1894 ∈ lw_tbl := sub_16 (List.mem_of_getElem? (i := 3) rfl)
theorem uz_1895 : vz_1895 ∈ lw_tbl := List.mem_append_left _ (List.mem_map.mpr ⟨_, pv_24 (List.mem_of_getElem? (i := 11) rfl), rfl⟩)
theorem uz_1896 : vz_1896 ∈ lw_tbl := sub_16 (List.mem_of_getElem? (i := 45) rfl)
theorem uz_1897 : vz_1897 ∈ lw_tbl := sub_16 (List.mem_of_getElem? (i := 48) rfl)
theorem uz_1898 : vz_1898 ∈ lw_tbl := sub_16 (List.mem_of_getElem? (i := 47) rfl)
theorem uz_1899 : vz_1899 ∈ lw_tbl := List.mem_append_left _ (List.mem_map.mpr ⟨_, pv_25 (List.mem_of_getElem? (i := 6) rfl), rfl⟩)
theorem uz_1900 : vz_1900 ∈ lw_tbl := sub_16 (List.mem_of_getElem? (i := 49) rfl)
theorem uz_1901 : vz_1901 ∈ lw_tbl := sub_16 (List.mem_of_getElem? (i := 52) rfl)
theorem uz_1902 : vz_1902 ∈ lw_tbl := sub_16 (List.mem_of_getElem? (i := 51) rfl)
theorem uz_1903 : vz_1903 ∈ lw_tbl := List.mem_append_left _ (List.mem_map.mpr ⟨_, pv_25 (List.mem_of_getElem? (i := 7) rfl), rfl⟩)
theorem uz_1904 : vz_1904 ∈ lw_tbl := sub_16 (List.mem_of_getElem? (i := 61) rfl)
theorem uz_1905 : vz_1905 ∈ lw_tbl := sub_16 (List.mem_of_getElem? (i := 64) rfl)
theorem uz_1906 : vz_1906 ∈ lw_tbl := sub_16 (List.mem_of_getElem? (i := 63) rfl)
theorem uz_1907 : vz_1907 ∈ lw_tbl := List.mem_append_left _ (List.mem_map.mpr ⟨_, pv_25 (List.mem_of_getElem? (i := 10) rfl), rfl⟩)
theorem uz_1908 : vz_1908 ∈ lw_tbl := sub_14 (List.mem_of_getElem? (i := 6) rfl)
theorem uz_1909 : vz_1909 ∈ lw_tbl := sub_14 (List.mem_of_getElem? (i := 9) rfl)
theorem uz_1910 : vz_1910 ∈ lw_tbl := sub_14 (List.mem_of_getElem? (i := 8) rfl)
theorem uz_1911 : vz_1911 ∈ lw_tbl := List.mem_append_left _ (List.mem_map.mpr ⟨_, pv_17 (List.mem_of_getElem? (i := 11) rfl), rfl⟩)
theorem uz_1912 : vz_1912 ∈ lw_tbl := sub_14 (List.mem_of_getElem? (i := 66) rfl)
theorem uz_1913 : vz_1913 ∈ lw_tbl := sub_14 (List.mem_of_getElem? (i := 69) rfl)
theorem uz_1914 : vz_1914 ∈ lw_tbl := sub_14 (List.mem_of_getElem? (i := 68) rfl)
theorem uz_1915 : vz_1915 ∈ lw_tbl := List.mem_append_left _ (List.mem_map.mpr ⟨_, pv_18 (List.mem_of_getElem? (i := 5) rfl), rfl⟩)
theorem uz_1916 : vz_1916 ∈ lw_tbl := sub_14 (List.mem_of_getElem? (i := 74) rfl)
theorem uz_1917 : vz_1917 ∈ lw_tbl := sub_14 (List.mem_of_getElem? (i := 77) rfl)
theorem uz_1918 : vz_1918 ∈ lw_tbl := sub_14 (List.mem_of_getElem? (i := 76) rfl)
theorem uz_1919 : vz_1919 ∈ lw_tbl := List.mem_append_left _ (List.mem_map.mpr ⟨_, pv_18 (List.mem_of_getElem? (i := 7) rfl), rfl⟩)
theorem uz_1920 : vz_1920 ∈ lw_tbl := sub_16 (List.mem_of_getElem? (i := 131) rfl)
theorem uz_1921 : vz_1921 ∈ lw_tbl := sub_14 (List.mem_of_getElem? (i := 234) rfl)
theorem uz_1922 : vz_1922 ∈ lw_tbl := sub_14 (List.mem_of_getElem? (i := 237) rfl)
theorem uz_1923 : vz_1923 ∈ lw_tbl := sub_14 (List.mem_of_getElem? (i := 236) rfl)
theorem uz_1924 : vz_1924 ∈ lw_tbl := List.mem_append_left _ (List.mem_map.mpr ⟨_, pv_20 (List.mem_of_getElem? (i := 15) rfl), rfl⟩)
theorem uz_1925 : vz_1925 ∈ lw_tbl := sub_15 (List.mem_of_getElem? (i := 65) rfl)
theorem uz_1926 : vz_1926 ∈ lw_tbl := sub_15 (List.mem_of_getElem? (i := 68) rfl)
theorem uz_1927 : vz_1927 ∈ lw_tbl := sub_15 (List.mem_of_getElem? (i := 67) rfl)
theorem uz_1928 : vz_1928 ∈ lw_tbl := List.mem_append_left _ (List.mem_map.mpr ⟨_, pv_22 (List.mem_of_getElem? (i := 0) rfl), rfl⟩)
theorem uz_1929 : vz_1929 ∈ lw_tbl := sub_15 (List.mem_of_getElem? (i := 81) rfl)
theorem uz_1930 : vz_1930 ∈ lw_tbl := sub_15 (List.mem_of_getElem? (i := 84) rfl)
theorem uz_1931 : vz_1931 ∈ lw_tbl := sub_15 (List.mem_of_getElem? (i := 83) rfl)
theorem uz_1932 : vz_1932 ∈ lw_tbl := List.mem_append_left _ (List.mem_map.mpr ⟨_, pv_22 (List.mem_of_getElem? (i := 4) rfl), rfl⟩)
theorem uz_1933 : vz_1933 ∈ lw_tbl := sub_15 (List.mem_of_getElem? (i := 89) rfl)
theorem uz_1934 : vz_1934 ∈ lw_tbl := sub_15 (List.mem_of_getElem? (i := 92) rfl)
theorem uz_1935 : vz_1935 ∈ lw_tbl := sub_15 (List.mem_of_getElem? (i := 91) rfl)
theorem uz_1936 : vz_1936 ∈ lw_tbl := List.mem_append_left _ (List.mem_map.mpr ⟨_, pv_22 (List.mem_of_getElem? (i := 6) rfl), rfl⟩)
theorem uz_1937 : vz_1937 ∈ lw_tbl := sub_15 (List.mem_of_getElem? (i := 102) rfl)
theorem uz_1938 : vz_1938 ∈ lw_tbl := sub_15 (List.mem_of_getElem? (i := 105) rfl)
theorem uz_1939 : vz_1939 ∈ lw_tbl := sub_15 (List.mem_of_getElem? (i := 104) rfl)
theorem uz_1940 : vz_1940 ∈ lw_tbl := List.mem_append_left _ (List.mem_map.mpr ⟨_, pv_22 (List.mem_of_getElem? (i := 9) rfl), rfl⟩)
theorem uz_1941 : vz_1941 ∈ lw_tbl := sub_15 (List.mem_of_getElem? (i := 110) rfl)
theorem uz_1942 : vz_1942 ∈ lw_tbl := sub_15 (List.mem_of_getElem? (i := 113) rfl)
theorem uz_1943 : vz_1943 ∈ lw_tbl := sub_15 (List.mem_of_getElem? (i := 112) rfl)
theorem uz_1944 : vz_1944 ∈ lw_tbl := List.mem_append_left _ (List.mem_map.mpr ⟨_, pv_22 (List.mem_of_getElem? (i := 11) rfl), rfl⟩)
theorem uz_1945 : vz_1945 ∈ lw_tbl := sub_16 (List.mem_of_getElem? (i := 153) rfl)
theorem uz_1946 : vz_1946 ∈ lw_tbl := sub_14 (List.mem_of_getElem? (i := 182) rfl)
theorem uz_1947 : vz_1947 ∈ lw_tbl := sub_14 (List.mem_of_getElem? (i := 185) rfl)
theorem uz_1948 : vz_1948 ∈ lw_tbl := sub_14 (List.mem_of_getElem? (i := 184) rfl)
theorem uz_1949 : vz_1949 ∈ lw_tbl := List.mem_append_left _ (List.mem_map.mpr ⟨_, pv_20 (List.mem_of_getElem? (i := 2) rfl), rfl⟩)
theorem uz_1950 : vz_1950 ∈ lw_tbl := sub_16 (List.mem_of_getElem? (i := 177) rfl)
theorem uz_1951 : vz_1951 ∈ lw_tbl := sub_14 (List.mem_of_getElem? (i := 62) rfl)
theorem uz_1952 : vz_1952 ∈ lw_tbl := sub_14 (List.mem_of_getElem? (i := 65) rfl)
theorem uz_1953 : vz_1953 ∈ lw_tbl := sub_14 (List.mem_of_getElem? (i := 64) rfl)
theorem uz_1954 : vz_1954 ∈ lw_tbl := List.mem_append_left _ (List.mem_map.mpr ⟨_, pv_18 (List.mem_of_getElem? (i := 4) rfl), rfl⟩)
theorem uz_1955 : vz_1955 ∈ lw_tbl := sub_14 (List.mem_of_getElem? (i := 206) rfl)
theorem uz_1956 : vz_1956 ∈ lw_tbl := sub_14 (List.mem_of_getElem? (i := 209) rfl)
theorem uz_1957 : vz_1957 ∈ lw_tbl := sub_14 (List.mem_of_getElem? (i := 208) rfl)
theorem uz_1958 : vz_1958 ∈ lw_tbl := List.mem_append_left _ (List.mem_map.mpr ⟨_, pv_20 (List.mem_of_getElem? (i := 8) rfl), rfl⟩)
theorem uz_1959 : vz_1959 ∈ lw_tbl := sub_14 (List.mem_of_getElem? (i := 226) rfl)
theorem uz_1960 : vz_1960 ∈ lw_tbl := sub_14 (List.mem_of_getElem? (i := 229) rfl)
theorem uz_1961 : vz_1961 ∈ lw_tbl := sub_14 (List.mem_of_getElem? (i := 228) rfl)
theorem uz_1962 : vz_1962 ∈ lw_tbl := List.mem_append_left _ (List.mem_map.mpr ⟨_, pv_20 (List.mem_of_getElem? (i := 13) rfl), rfl⟩)
theorem uz_1963 : vz_1963 ∈ lw_tbl := sub_14 (List.mem_of_getElem? (i := 174) rfl)
theorem uz_1964 : vz_1964 ∈ lw_tbl := sub_14 (List.mem_of_getElem? (i := 177) rfl)
theorem uz_1965 : vz_1965 ∈ lw_tbl := sub_14 (List.mem_of_getElem? (i := 176) rfl)
theorem uz_1966 : vz_1966 ∈ lw_tbl := List.mem_append_left _ (List.mem_map.mpr ⟨_, pv_20 (List.mem_of_getElem? (i := 0) rfl), rfl⟩)
theorem uz_1967 : vz_1967 ∈ lw_tbl := sub_14 (List.mem_of_getElem? (i := 170) rfl)
theorem uz_1968 : vz_1968 ∈ lw_tbl := sub_14 (List.mem_of_getElem? (i := 173) rfl)
theorem uz_1969 : vz_1969 ∈ lw_tbl := sub_14 (List.mem_of_getElem? (i := 172) rfl)
theorem uz_1970 : vz_1970 ∈ lw_tbl := List.mem_append_left _ (List.mem_map.mpr ⟨_, pv_19 (List.mem_of_getElem? (i := 15) rfl), rfl⟩)
theorem uz_1971 : vz_1971 ∈ lw_tbl := sub_14 (List.mem_of_getElem? (i := 178) rfl)
theorem uz_1972 : vz_1972 ∈ lw_tbl := sub_14 (List.mem_of_getElem? (i := 181) rfl)
theorem uz_1973 : vz_1973 ∈ lw_tbl := sub_14 (List.mem_of_getElem? (i := 180) rfl)
theorem uz_1974 : vz_1974 ∈ lw_tbl := List.mem_append_left _ (List.mem_map.mpr ⟨_, pv_20 (List.mem_of_getElem? (i := 1) rfl), rfl⟩)
theorem uz_1975 : vz_1975 ∈ lw_tbl := sub_14 (List.mem_of_getElem? (i := 10) rfl)
theorem uz_1976 : vz_1976 ∈ lw_tbl := sub_14 (List.mem_of_getElem? (i := 13) rfl)
theorem uz_1977 : vz_1977 ∈ lw_tbl := sub_14 (List.mem_of_getElem? (i := 12) rfl)
theorem uz_1978 : vz_1978 ∈ lw_tbl := List.mem_append_left _ (List.mem_map.mpr ⟨_, pv_17 (List.mem_of_getElem? (i := 12) rfl), rfl⟩)
theorem uz_1979 : vz_1979 ∈ lw_tbl := sub_14 (List.mem_of_getElem? (i := 27) rfl)
theorem uz_1980 : vz_1980 ∈ lw_tbl := sub_14 (List.mem_of_getElem? (i := 30) rfl)
theorem uz_1981 : vz_1981 ∈ lw_tbl := sub_14 (List.mem_of_getElem? (i := 29) rfl)
theorem uz_1982 : vz_1982 ∈ lw_tbl := List.mem_append_left _ (List.mem_map.mpr ⟨_, pv_17 (List.mem_of_getElem? (i := 15) rfl), rfl⟩)
theorem uz_1983 : vz_1983 ∈ lw_tbl := sub_21 (List.mem_of_getElem? (i := 41) rfl)
theorem uz_1984 : vz_1984 ∈ lw_tbl := sub_21 (List.mem_of_getElem? (i := 44) rfl)
theorem uz_1985 : vz_1985 ∈ lw_tbl := sub_21 (List.mem_of_getElem? (i := 43) rfl)
theorem uz_1986 : vz_1986 ∈ lw_tbl := List.mem_append_left _ (List.mem_map.mpr ⟨_, pv_32 (List.mem_of_getElem? (i := 4) rfl), rfl⟩)
theorem uz_1987 : vz_1987 ∈ lw_tbl := sub_21 (List.mem_of_getElem? (i := 86) rfl)
theorem uz_1988 : vz_1988 ∈ lw_tbl := sub_21 (List.mem_of_getElem? (i := 89) rfl)
theorem uz_1989 : vz_1989 ∈ lw_tbl := sub_21 (List.mem_of_getElem? (i := 88) rfl)
theorem uz_1990 : vz_1990 ∈ lw_tbl := List.mem_append_left _ (List.mem_map.mpr ⟨_, pv_32 (List.mem_of_getElem? (i := 12) rfl), rfl⟩)
theorem uz_1991 : vz_1991 ∈ lw_tbl := sub_13 (List.mem_of_getElem? (i := 222) rfl)
theorem uz_1992 : vz_1992 ∈ lw_tbl := sub_17 (List.mem_of_getElem? (i := 59) rfl)
theorem uz_1993 : vz_1993 ∈ lw_tbl := sub_21 (List.mem_of_getElem? (i := 45) rfl)
theorem uz_1994 : vz_1994 ∈ lw_tbl := sub_21 (List.mem_of_getElem? (i := 48) rfl)
theorem uz_1995 : vz_1995 ∈ lw_tbl := sub_21 (List.mem_of_getElem? (i := 47) rfl)
theorem uz_1996 : vz_1996 ∈ lw_tbl := List.mem_append_left _ (List.mem_map.mpr ⟨_, pv_32 (List.mem_of_getElem? (i := 5) rfl), rfl⟩)
theorem uz_1997 : vz_1997 ∈ lw_tbl := sub_21 (List.mem_of_getElem? (i := 59) rfl)
theorem uz_1998 : vz_1998 ∈ lw_tbl := sub_21 (List.mem_of_getElem? (i := 62) rfl)
theorem uz_1999 : vz_1999 ∈ lw_tbl := sub_21 (List.mem_of_getElem? (i := 61) rfl)
theorem uz_2000 : vz_2000 ∈ lw_tbl := List.mem_append_left _ (List.mem_map.mpr ⟨_, pv_32 (List.mem_of_getElem? (i := 7) rfl), rfl⟩)
theorem uz_2001 : vz_2001 ∈ lw_tbl := sub_21 (List.mem_of_getElem? (i := 63) rfl)
theorem uz_2002 : vz_2002 ∈ lw_tbl := sub_21 (List.mem_of_getElem? (i := 66) rfl)
theorem uz_2003 : vz_2003 ∈ lw_tbl := sub_21 (List.mem_of_getElem? (i := 65) rfl)
theorem uz_2004 : vz_2004 ∈ lw_tbl := List.mem_append_left _ (List.mem_map.mpr ⟨_, pv_32 (List.mem_of_getElem? (i := 8) rfl), rfl⟩)
theorem uz_2005 : vz_2005 ∈ lw_tbl := sub_21 (List.mem_of_getElem? (i := 72) rfl)
theorem uz_2006 : vz_2006 ∈ lw_tbl := sub_21 (List.mem_of_getElem? (i := 75) rfl)
theorem uz_2007 : vz_2007 ∈ lw_tbl := sub_21 (List.mem_of_getElem? (i := 74) rfl)
theorem uz_2008 : vz_2008 ∈ lw_tbl := List.mem_append_left _ (List.mem_map.mpr ⟨_, pv_32 (List.mem_of_getElem? (i := 10) rfl), rfl⟩)
theorem uz_2009 : vz_2009 ∈ lw_tbl := sub_21 (List.mem_of_getElem? (i := 79) rfl)
theorem uz_2010 : vz_2010 ∈ lw_tbl := sub_21 (List.mem_of_getElem? (i := 81) rfl)
theorem uz_2011 : vz_2011 ∈ lw_tbl := sub_21 (List.mem_of_getElem? (i := 80) rfl)
theorem uz_2012 : vz_2012 ∈ lw_tbl := sub_21 (List.mem_of_getElem? (i := 82) rfl)
theorem uz_2013 : vz_2013 ∈ lw_tbl := sub_21 (List.mem_of_getElem? (i := 85) rfl)
theorem uz_2014 : vz_2014 ∈ lw_tbl := sub_21 (List.mem_of_getElem? (i := 84) rfl)
theorem uz_2015 : vz_2015 ∈ lw_tbl := List.mem_append_left _ (List.mem_map.mpr ⟨_, pv_32 (List.mem_of_getElem? (i := 11) rfl), rfl⟩)
theorem uz_2016 : vz_2016 ∈ lw_tbl := sub_16 (List.mem_of_getElem? (i := 57) rfl)
theorem uz_2017 : vz_2017 ∈ lw_tbl := sub_16 (List.mem_of_getElem? (i := 60) rfl)
theorem uz_2018 : vz_2018 ∈ lw_tbl := sub_16 (List.mem_of_getElem? (i := 59) rfl)
theorem uz_2019 : vz_2019 ∈ lw_tbl := List.mem_append_left _ (List.mem_map.mpr ⟨_, pv_25 (List.mem_of_getElem? (i := 9) rfl), rfl⟩)
theorem uz_2020 : vz_2020 ∈ lw_tbl := sub_16 (List.mem_of_getElem? (i := 82) rfl)
theorem uz_2021 : vz_2021 ∈ lw_tbl := sub_14 (List.mem_of_getElem? (i := 53) rfl)
theorem uz_2022 : vz_2022 ∈ lw_tbl := sub_14 (List.mem_of_getElem? (i := 56) rfl)
theorem uz_2023 : vz_2023 ∈ lw_tbl := sub_14 (List.mem_of_getElem? (i := 55) rfl)
theorem uz_2024 : vz_2024 ∈ lw_tbl := List.mem_append_left _ (List.mem_map.mpr ⟨_, pv_18 (List.mem_of_getElem? (i := 2) rfl), rfl⟩)
theorem uz_2025 : vz_2025 ∈ lw_tbl := sub_16 (List.mem_of_getElem? (i := 84) rfl)
theorem uz_2026 : vz_2026 ∈ lw_tbl := sub_16 (List.mem_of_getElem? (i := 174) rfl)
theorem uz_2027 : vz_2027 ∈ lw_tbl := sub_21 (List.mem_of_getElem? (i := 90) rfl)
theorem uz_2028 : vz_2028 ∈ lw_tbl := sub_21 (List.mem_of_getElem? (i := 93) rfl)
theorem uz_2029 : vz_2029 ∈ lw_tbl := sub_21 (List.mem_of_getElem? (i := 92) rfl)
theorem uz_2030 : vz_2030 ∈ lw_tbl := List.mem_append_left _ (List.mem_map.mpr ⟨_, pv_32 (List.mem_of_getElem? (i := 13) rfl), rfl⟩)
theorem uz_2031 : vz_2031 ∈ lw_tbl := sub_21 (List.mem_of_getElem? (i := 94) rfl)
theorem uz_2032 : vz_2032 ∈ lw_tbl := sub_21 (List.mem_of_getElem? (i := 97) rfl)
theorem uz_2033 : vz_2033 ∈ lw_tbl := sub_21 (List.mem_of_getElem? (i := 96) rfl)
theorem uz_2034 : vz_2034 ∈ lw_tbl := List.mem_append_left _ (List.mem_map.mpr ⟨_, pv_32 (List.mem_of_getElem? (i := 14) rfl), rfl⟩)
theorem uz_2035 : vz_2035 ∈ lw_tbl := sub_14 (List.mem_of_getElem? (i := 122) rfl)
theorem uz_2036 : vz_2036 ∈ lw_tbl := sub_14 (List.mem_of_getElem? (i := 125) rfl)
theorem uz_2037 : vz_2037 ∈ lw_tbl := sub_14 (List.mem_of_getElem? (i := 124) rfl)
theorem uz_2038 : vz_2038 ∈ lw_tbl := List.mem_append_left _ (List.mem_map.mpr ⟨_, pv_19 (List.mem_of_getElem? (i := 3) rfl), rfl⟩)
theorem uz_2039 : vz_2039 ∈ lw_tbl := sub_21 (List.mem_of_getElem? (i := 53) rfl)
theorem uz_2040 : vz_2040 ∈ lw_tbl := sub_21 (List.mem_of_getElem? (i := 54) rfl)
theorem uz_2041 : vz_2041 ∈ lw_tbl := sub_21 (List.mem_of_getElem? (i := 55) rfl)
theorem uz_2042 : vz_2042 ∈ lw_tbl := sub_21 (List.mem_of_getElem? (i := 56) rfl)
theorem uz_2043 : vz_2043 ∈ lw_tbl := sub_21 (List.mem_of_getElem? (i := 57) rfl)
theorem uz_2044 : vz_2044 ∈ lw_tbl := sub_21 (List.mem_of_getElem? (i := 58) rfl)
theorem uz_2045 : vz_2045 ∈ lw_tbl := sub_14 (List.mem_of_getElem? (i := 48) rfl)
theorem uz_2046 : vz_2046 ∈ lw_tbl := sub_5 (List.mem_of_getElem? (i := 56) rfl)
theorem uz_2047 : vz_2047 ∈ lw_tbl := sub_5 (List.mem_of_getElem? (i := 54) rfl)
theorem uz_2048 : vz_2048 ∈ lw_tbl := sub_5 (List.mem_of_getElem? (i := 55) rfl)
theorem uz_2049 : vz_2049 ∈ lw_tbl := sub_4 (List.mem_of_getElem? (i := 210) rfl)
theorem uz_2050 : vz_2050 ∈ lw_tbl := sub_4 (List.mem_of_getElem? (i := 213) rfl)
theorem uz_2051 : vz_2051 ∈ lw_tbl := sub_4 (List.mem_of_getElem? (i := 211) rfl)
theorem uz_2052 : vz_2052 ∈ lw_tbl := sub_4 (List.mem_of_getElem? (i := 212) rfl)
theorem uz_2053 : vz_2053 ∈ lw_tbl := sub_8 (List.mem_of_getElem? (i := 101) rfl)
theorem uz_2054 : vz_2054 ∈ lw_tbl := sub_4 (List.mem_of_getElem? (i := 214) rfl)
theorem uz_2055 : vz_2055 ∈ lw_tbl := sub_1 (List.mem_of_getElem? (i := 17) rfl)
theorem uz_2056 : vz_2056 ∈ lw_tbl := sub_4 (List.mem_of_getElem? (i := 216) rfl)
theorem uz_2057 : vz_2057 ∈ lw_tbl := sub_4 (List.mem_of_getElem? (i := 215) rfl)
theorem uz_2058 : vz_2058 ∈ lw_tbl := sub_4 (List.mem_of_getElem? (i := 201) rfl)
theorem uz_2059 : vz_2059 ∈ lw_tbl := sub_8 (List.mem_of_getElem? (i := 102) rfl)
theorem uz_2060 : vz_2060 ∈ lw_tbl := sub_5 (List.mem_of_getElem? (i := 53) rfl)
theorem uz_2061 : vz_2061 ∈ lw_tbl := sub_5 (List.mem_of_getElem? (i := 57) rfl)
theorem uz_2062 : vz_2062 ∈ lw_tbl := sub_5 (List.mem_of_getElem? (i := 58) rfl)
theorem uz_2063 : vz_2063 ∈ lw_tbl := sub_5 (List.mem_of_getElem? (i := 60) rfl)
theorem uz_2064 : vz_2064 ∈ lw_tbl := sub_5 (List.mem_of_getElem? (i := 59) rfl)
theorem uz_2065 : vz_2065 ∈ lw_tbl := sub_4 (List.mem_of_getElem? (i := 197) rfl)
theorem uz_2066 : vz_2066 ∈ lw_tbl := sub_4 (List.mem_of_getElem? (i := 200) rfl)
theorem uz_2067 : vz_2067 ∈ lw_tbl := sub_4 (List.mem_of_getElem? (i := 198) rfl)
theorem uz_2068 : vz_2068 ∈ lw_tbl := sub_4 (List.mem_of_getElem? (i := 199) rfl)
theorem uz_2069 : vz_2069 ∈ lw_tbl := sub_4 (List.mem_of_getElem? (i := 217) rfl)
theorem uz_2070 : vz_2070 ∈ lw_tbl := sub_4 (List.mem_of_getElem? (i := 218) rfl)
theorem uz_2071 : vz_2071 ∈ lw_tbl := sub_4 (List.mem_of_getElem? (i := 219) rfl)
theorem uz_2072 : vz_2072 ∈ lw_tbl := sub_4 (List.mem_of_getElem? (i := 220) rfl)
theorem uz_2073 : vz_2073 ∈ lw_tbl := sub_4 (List.mem_of_getElem? (i := 222) rfl)
theorem uz_2074 : vz_2074 ∈ lw_tbl := sub_1 (List.mem_of_getElem? (i := 18) rfl)
theorem uz_2075 : vz_2075 ∈ lw_tbl := sub_4 (List.mem_of_getElem? (i := 223) rfl)
theorem uz_2076 : vz_2076 ∈ lw_tbl := sub_4 (List.mem_of_getElem? (i := 224) rfl)
theorem uz_2077 : vz_2077 ∈ lw_tbl := sub_5 (List.mem_of_getElem? (i := 61) rfl)
theorem uz_2078 : vz_2078 ∈ lw_tbl := sub_5 (List.mem_of_getElem? (i := 63) rfl)
theorem uz_2079 : vz_2079 ∈ lw_tbl := sub_5 (List.mem_of_getElem? (i := 62) rfl)
theorem uz_2080 : vz_2080 ∈ lw_tbl := sub_5 (List.mem_of_getElem? (i := 64) rfl)
theorem uz_2081 : vz_2081 ∈ lw_tbl := sub_5 (List.mem_of_getElem? (i := 67) rfl)
theorem uz_2082 : vz_2082 ∈ lw_tbl := sub_5 (List.mem_of_getElem? (i := 68) rfl)
theorem uz_2083 : vz_2083 ∈ lw_tbl := sub_5 (List.mem_of_getElem? (i := 70) rfl)
theorem uz_2084 : vz_2084 ∈ lw_tbl := sub_5 (List.mem_of_getElem? (i := 69) rfl)
theorem uz_2085 : vz_2085 ∈ lw_tbl := sub_7 (List.mem_of_getElem? (i := 124) rfl)
theorem uz_2086 : vz_2086 ∈ lw_tbl := sub_7 (List.mem_of_getElem? (i := 126) rfl)
theorem uz_2087 : vz_2087 ∈ lw_tbl := sub_7 (List.mem_of_getElem? (i := 125) rfl)
theorem uz_2088 : vz_2088 ∈ lw_tbl := sub_7 (List.mem_of_getElem? (i := 2) rfl)
theorem uz_2089 : vz_2089 ∈ lw_tbl := sub_1 (List.mem_of_getElem? (i := 175) rfl)
theorem uz_2090 : vz_2090 ∈ lw_tbl := sub_1 (List.mem_of_getElem? (i := 174) rfl)
theorem uz_2091 : vz_2091 ∈ lw_tbl := sub_7 (List.mem_of_getElem? (i := 11) rfl)
theorem uz_2092 : vz_2092 ∈ lw_tbl := sub_7 (List.mem_of_getElem? (i := 14) rfl)
theorem uz_2093 : vz_2093 ∈ lw_tbl := sub_7 (List.mem_of_getElem? (i := 13) rfl)
theorem uz_2094 : vz_2094 ∈ lw_tbl := List.mem_append_left _ (List.mem_map.mpr ⟨_, pv_5 (List.mem_of_getElem? (i := 9) rfl), rfl⟩)
theorem uz_2095 : vz_2095 ∈ lw_tbl := sub_7 (List.mem_of_getElem? (i := 67) rfl)
theorem uz_2096 : vz_2096 ∈ lw_tbl := sub_7 (List.mem_of_getElem? (i := 70) rfl)
theorem uz_2097 : vz_2097 ∈ lw_tbl := sub_7 (List.mem_of_getElem? (i := 69) rfl)
theorem uz_2098 : vz_2098 ∈ lw_tbl := List.mem_append_left _ (List.mem_map.mpr ⟨_, pv_6 (List.mem_of_getElem? (i := 7) rfl), rfl⟩)
theorem uz_2099 : vz_2099 ∈ lw_tbl := sub_7 (List.mem_of_getElem? (i := 71) rfl)
theorem uz_2100 : vz_2100 ∈ lw_tbl := sub_7 (List.mem_of_getElem? (i := 74) rfl)
theorem uz_2101 : vz_2101 ∈ lw_tbl := sub_7 (List.mem_of_getElem? (i := 73) rfl)
theorem uz_2102 : vz_2102 ∈ lw_tbl := List.mem_append_left _ (List.mem_map.mpr ⟨_, pv_6 (List.mem_of_getElem? (i := 8) rfl), rfl⟩)
theorem uz_2103 : vz_2103 ∈ lw_tbl := sub_6 (List.mem_of_getElem? (i := 179) rfl)
theorem uz_2104 : vz_2104 ∈ lw_tbl := sub_1 (List.mem_of_getElem? (i := 125) rfl)
theorem uz_2105 : vz_2105 ∈ lw_tbl := sub_10 (List.mem_of_getElem? (i := 7) rfl)
theorem uz_2106 : vz_2106 ∈ lw_tbl := sub_8 (List.mem_of_getElem? (i := 154) rfl)
theorem uz_2107 : vz_2107 ∈ lw_tbl := sub_8 (List.mem_of_getElem? (i := 157) rfl)
theorem uz_2108 : vz_2108 ∈ lw_tbl := sub_8 (List.mem_of_getElem? (i := 156) rfl)
theorem uz_2109 : vz_2109 ∈ lw_tbl := List.mem_append_left _ (List.mem_map.mpr ⟨_, pv_7 (List.mem_of_getElem? (i := 8) rfl), rfl⟩)
theorem uz_2110 : vz_2110 ∈ lw_tbl := sub_4 (List.mem_of_getElem? (i := 65) rfl)
theorem uz_2111 : vz_2111 ∈ lw_tbl := sub_4 (List.mem_of_getElem? (i := 67) rfl)
theorem uz_2112 : vz_2112 ∈ lw_tbl := sub_4 (List.mem_of_getElem? (i := 68) rfl)
theorem uz_2113 : vz_2113 ∈ lw_tbl := sub_4 (List.mem_of_getElem? (i := 47) rfl)
theorem uz_2114 : vz_2114 ∈ lw_tbl := sub_3 (List.mem_of_getElem? (i := 81) rfl)
theorem uz_2115 : vz_2115 ∈ lw_tbl := sub_3 (List.mem_of_getElem? (i := 82) rfl)
theorem uz_2116 : vz_2116 ∈ lw_tbl := sub_1 (List.mem_of_getElem? (i := 12) rfl)
theorem uz_2117 : vz_2117 ∈ lw_tbl := sub_3 (List.mem_of_getElem? (i := 85) rfl)
theorem uz_2118 : vz_2118 ∈ lw_tbl := sub_3 (List.mem_of_getElem? (i := 84) rfl)
theorem uz_2119 : vz_2119 ∈ lw_tbl := sub_3 (List.mem_of_getElem? (i := 32) rfl)
theorem uz_2120 : vz_2120 ∈ lw_tbl := sub_3 (List.mem_of_getElem? (i := 20) rfl)
theorem uz_2121 : vz_2121 ∈ lw_tbl := sub_3 (List.mem_of_getElem? (i := 88) rfl)
theorem uz_2122 : vz_2122 ∈ lw_tbl := sub_3 (List.mem_of_getElem? (i := 113) rfl)
theorem uz_2123 : vz_2123 ∈ lw_tbl := sub_3 (List.mem_of_getElem? (i := 89) rfl)
theorem uz_2124 : vz_2124 ∈ lw_tbl := sub_3 (List.mem_of_getElem? (i := 121) rfl)
theorem uz_2125 : vz_2125 ∈ lw_tbl := sub_3 (List.mem_of_getElem? (i := 90) rfl)
theorem uz_2126 : vz_2126 ∈ lw_tbl := sub_3 (List.mem_of_getElem? (i := 124) rfl)
theorem uz_2127 : vz_2127 ∈ lw_tbl := sub_3 (List.mem_of_getElem? (i := 133) rfl)
theorem uz_2128 : vz_2128 ∈ lw_tbl := sub_3 (List.mem_of_getElem? (i := 232) rfl)
theorem uz_2129 : vz_2129 ∈ lw_tbl := sub_3 (List.mem_of_getElem? (i := 215) rfl)
theorem uz_2130 : vz_2130 ∈ lw_tbl := sub_3 (List.mem_of_getElem? (i := 216) rfl)
theorem uz_2131 : vz_2131 ∈ lw_tbl := sub_4 (List.mem_of_getElem? (i := 139) rfl)
theorem uz_2132 : vz_2132 ∈ lw_tbl := sub_4 (List.mem_of_getElem? (i := 140) rfl)
theorem uz_2133 : vz_2133 ∈ lw_tbl := sub_4 (List.mem_of_getElem? (i := 114) rfl)
theorem uz_2134 : vz_2134 ∈ lw_tbl := sub_4 (List.mem_of_getElem? (i := 115) rfl)
theorem uz_2135 : vz_2135 ∈ lw_tbl := sub_3 (List.mem_of_getElem? (i := 74) rfl)
theorem uz_2136 : vz_2136 ∈ lw_tbl := sub_3 (List.mem_of_getElem? (i := 75) rfl)
theorem uz_2137 : vz_2137 ∈ lw_tbl := sub_1 (List.mem_of_getElem? (i := 11) rfl)
theorem uz_2138 : vz_2138 ∈ lw_tbl := sub_3 (List.mem_of_getElem? (i := 76) rfl)
theorem uz_2139 : vz_2139 ∈ lw_tbl := sub_3 (List.mem_of_getElem? (i := 78) rfl)
theorem uz_2140 : vz_2140 ∈ lw_tbl := sub_3 (List.mem_of_getElem? (i := 77) rfl)
theorem uz_2141 : vz_2141 ∈ lw_tbl := sub_1 (List.mem_of_getElem? (i := 194) rfl)
theorem uz_2142 : vz_2142 ∈ lw_tbl := sub_1 (List.mem_of_getElem? (i := 199) rfl)
theorem uz_2143 : vz_2143 ∈ lw_tbl := sub_2 (List.mem_of_getElem? (i := 49) rfl)
theorem uz_2144 : vz_2144 ∈ lw_tbl := sub_1 (List.mem_of_getElem? (i := 201) rfl)
theorem uz_2145 : vz_2145 ∈ lw_tbl := sub_1 (List.mem_of_getElem? (i := 204) rfl)
theorem uz_2146 : vz_2146 ∈ lw_tbl := sub_1 (List.mem_of_getElem? (i := 173) rfl)
theorem uz_2147 : vz_2147 ∈ lw_tbl := sub_1 (List.mem_of_getElem? (i := 225) rfl)
theorem uz_2148 : vz_2148 ∈ lw_tbl := sub_6 (List.mem_of_getElem? (i := 209) rfl)
theorem uz_2149 : vz_2149 ∈ lw_tbl := sub_1 (List.mem_of_getElem? (i := 211) rfl)
theorem uz_2150 : vz_2150 ∈ lw_tbl := sub_9 (List.mem_of_getElem? (i := 49) rfl)
theorem uz_2151 : vz_2151 ∈ lw_tbl := sub_9 (List.mem_of_getElem? (i := 52) rfl)
theorem uz_2152 : vz_2152 ∈ lw_tbl := sub_9 (List.mem_of_getElem? (i := 51) rfl)
theorem uz_2153 : vz_2153 ∈ lw_tbl := List.mem_append_left _ (List.mem_map.mpr ⟨_, pv_9 (List.mem_of_getElem? (i := 6) rfl), rfl⟩)
theorem uz_2154 : vz_2154 ∈ lw_tbl := sub_9 (List.mem_of_getElem? (i := 0) rfl)
theorem uz_2155 : vz_2155 ∈ lw_tbl := sub_9 (List.mem_of_getElem? (i := 3) rfl)
theorem uz_2156 : vz_2156 ∈ lw_tbl := sub_9 (List.mem_of_getElem? (i := 2) rfl)
theorem uz_2157 : vz_2157 ∈ lw_tbl := List.mem_append_left _ (List.mem_map.mpr ⟨_, pv_8 (List.mem_of_getElem? (i := 10) rfl), rfl⟩)
theorem uz_2158 : vz_2158 ∈ lw_tbl := sub_9 (List.mem_of_getElem? (i := 80) rfl)
theorem uz_2159 : vz_2159 ∈ lw_tbl := sub_9 (List.mem_of_getElem? (i := 83) rfl)
theorem uz_2160 : vz_2160 ∈ lw_tbl := sub_9 (List.mem_of_getElem? (i := 82) rfl)
theorem uz_2161 : vz_2161 ∈ lw_tbl := List.mem_append_left _ (List.mem_map.mpr ⟨_, pv_9 (List.mem_of_getElem? (i := 13) rfl), rfl⟩)
theorem uz_2162 : vz_2162 ∈ lw_tbl := sub_9 (List.mem_of_getElem? (i := 13) rfl)
theorem uz_2163 : vz_2163 ∈ lw_tbl := sub_9 (List.mem_of_getElem? (i := 16) rfl)
theorem uz_2164 : vz_2164 ∈ lw_tbl := sub_9 (List.mem_of_getElem? (i := 15) rfl)
theorem uz_2165 : vz_2165 ∈ lw_tbl := List.mem_append_left _ (List.mem_map.mpr ⟨_, pv_8 (List.mem_of_getElem? (i := 13) rfl), rfl⟩)
theorem uz_2166 : vz_2166 ∈ lw_tbl := sub_13 (List.mem_of_getElem? (i := 227) rfl)
theorem uz_2167 : vz_2167 ∈ lw_tbl := sub_13 (List.mem_of_getElem? (i := 230) rfl)
theorem uz_2168 : vz_2168 ∈ lw_tbl := sub_13 (List.mem_of_getElem? (i := 229) rfl)
theorem uz_2169 : vz_2169 ∈ lw_tbl := List.mem_append_left _ (List.mem_map.mpr ⟨_, pv_17 (List.mem_of_getElem? (i := 7) rfl), rfl⟩)
theorem uz_2170 : vz_2170 ∈ lw_tbl := sub_7 (List.mem_of_getElem? (i := 31) rfl)
theorem uz_2171 : vz_2171 ∈ lw_tbl := sub_7 (List.mem_of_getElem? (i := 34) rfl)
theorem uz_2172 : vz_2172 ∈ lw_tbl := sub_7 (List.mem_of_getElem? (i := 33) rfl)
theorem uz_2173 : vz_2173 ∈ lw_tbl := List.mem_append_left _ (List.mem_map.mpr ⟨_, pv_5 (List.mem_of_getElem? (i := 14) rfl), rfl⟩)
theorem uz_2174 : vz_2174 ∈ lw_tbl := sub_9 (List.mem_of_getElem? (i := 72) rfl)
theorem uz_2175 : vz_2175 ∈ lw_tbl := sub_9 (List.mem_of_getElem? (i := 75) rfl)
theorem uz_2176 : vz_2176 ∈ lw_tbl := sub_9 (List.mem_of_getElem? (i := 74) rfl)
theorem uz_2177 : vz_2177 ∈ lw_tbl := List.mem_append_left _ (List.mem_map.mpr ⟨_, pv_9 (List.mem_of_getElem? (i := 11) rfl), rfl⟩)
theorem uz_2178 : vz_2178 ∈ lw_tbl := sub_13 (List.mem_of_getElem? (i := 215) rfl)
theorem uz_2179 : vz_2179 ∈ lw_tbl := sub_13 (List.mem_of_getElem? (i := 216) rfl)
theorem uz_2180 : vz_2180 ∈ lw_tbl := sub_16 (List.mem_of_getElem? (i := 140) rfl)
theorem uz_2181 : vz_2181 ∈ lw_tbl := sub_16 (List.mem_of_getElem? (i := 141) rfl)
theorem uz_2182 : vz_2182 ∈ lw_tbl := sub_16 (List.mem_of_getElem? (i := 142) rfl)
theorem uz_2183 : vz_2183 ∈ lw_tbl := sub_16 (List.mem_of_getElem? (i := 143) rfl)
theorem uz_2184 : vz_2184 ∈ lw_tbl := sub_13 (List.mem_of_getElem? (i := 217) rfl)
theorem uz_2185 : vz_2185 ∈ lw_tbl := sub_16 (List.mem_of_getElem? (i := 144) rfl)
theorem uz_2186 : vz_2186 ∈ lw_tbl := sub_16 (List.mem_of_getElem? (i := 145) rfl)
theorem uz_2187 : vz_2187 ∈ lw_tbl := sub_13 (List.mem_of_getElem? (i := 218) rfl)
theorem uz_2188 : vz_2188 ∈ lw_tbl := sub_16 (List.mem_of_getElem? (i := 149) rfl)
theorem uz_2189 : vz_2189 ∈ lw_tbl := sub_16 (List.mem_of_getElem? (i := 150) rfl)
theorem uz_2190 : vz_2190 ∈ lw_tbl := sub_16 (List.mem_of_getElem? (i := 151) rfl)
theorem uz_2191 : vz_2191 ∈ lw_tbl := sub_16 (List.mem_of_getElem? (i := 152) rfl)
theorem uz_2192 : vz_2192 ∈ lw_tbl := sub_13 (List.mem_of_getElem? (i := 219) rfl)
theorem uz_2193 : vz_2193 ∈ lw_tbl := sub_13 (List.mem_of_getElem? (i := 220) rfl)
theorem uz_2194 : vz_2194 ∈ lw_tbl := sub_16 (List.mem_of_getElem? (i := 179) rfl)
theorem uz_2195 : vz_2195 ∈ lw_tbl := sub_16 (List.mem_of_getElem? (i := 180) rfl)
theorem uz_2196 : vz_2196 ∈ lw_tbl := sub_16 (List.mem_of_getElem? (i := 181) rfl)
theorem uz_2197 : vz_2197 ∈ lw_tbl := sub_16 (List.mem_of_getElem? (i := 182) rfl)
theorem uz_2198 : vz_2198 ∈ lw_tbl := sub_16 (List.mem_of_getElem? (i := 183) rfl)
theorem uz_2199 : vz_2199 ∈ lw_tbl := sub_16 (List.mem_of_getElem? (i := 184) rfl)
theorem uz_2200 : vz_2200 ∈ lw_tbl := sub_16 (List.mem_of_getElem? (i := 186) rfl)
theorem uz_2201 : vz_2201 ∈ lw_tbl := sub_16 (List.mem_of_getElem? (i := 187) rfl)
theorem uz_2202 : vz_2202 ∈ lw_tbl := sub_16 (List.mem_of_getElem? (i := 188) rfl)
theorem uz_2203 : vz_2203 ∈ lw_tbl := sub_16 (List.mem_of_getElem? (i := 189) rfl)
theorem uz_2204 : vz_2204 ∈ lw_tbl := sub_16 (List.mem_of_getElem? (i := 190) rfl)
theorem uz_2205 : vz_2205 ∈ lw_tbl := sub_16 (List.mem_of_getElem? (i := 191) rfl)
theorem uz_2206 : vz_2206 ∈ lw_tbl := sub_13 (List.mem_of_getElem? (i := 221) rfl)
theorem uz_2207 : vz_2207 ∈ lw_tbl := sub_16 (List.mem_of_getElem? (i := 195) rfl)
theorem uz_2208 : vz_2208 ∈ lw_tbl := sub_16 (List.mem_of_getElem? (i := 197) rfl)
theorem uz_2209 : vz_2209 ∈ lw_tbl := sub_16 (List.mem_of_getElem? (i := 198) rfl)
theorem uz_2210 : vz_2210 ∈ lw_tbl := sub_16 (List.mem_of_getElem? (i := 199) rfl)
theorem uz_2211 : vz_2211 ∈ lw_tbl := sub_16 (List.mem_of_getElem? (i := 201) rfl)
theorem uz_2212 : vz_2212 ∈ lw_tbl := sub_16 (List.mem_of_getElem? (i := 202) rfl)
theorem uz_2213 : vz_2213 ∈ lw_tbl := sub_16 (List.mem_of_getElem? (i := 204) rfl)
theorem uz_2214 : vz_2214 ∈ lw_tbl := sub_16 (List.mem_of_getElem? (i := 205) rfl)
theorem uz_2215 : vz_2215 ∈ lw_tbl := sub_16 (List.mem_of_getElem? (i := 206) rfl)
theorem uz_2216 : vz_2216 ∈ lw_tbl := sub_16 (List.mem_of_getElem? (i := 207) rfl)
theorem uz_2217 : vz_2217 ∈ lw_tbl := sub_16 (List.mem_of_getElem? (i := 208) rfl)
theorem uz_2218 : vz_2218 ∈ lw_tbl := sub_16 (List.mem_of_getElem? (i := 218) rfl)
theorem uz_2219 : vz_2219 ∈ lw_tbl := sub_16 (List.mem_of_getElem? (i := 219) rfl)
theorem uz_2220 : vz_2220 ∈ lw_tbl := sub_16 (List.mem_of_getElem? (i := 220) rfl)
theorem uz_2221 : vz_2221 ∈ lw_tbl := sub_16 (List.mem_of_getElem? (i := 224) rfl)
theorem uz_2222 : vz_2222 ∈ lw_tbl := sub_16 (List.mem_of_getElem? (i := 225) rfl)
theorem uz_2223 : vz_2223 ∈ lw_tbl := sub_16 (List.mem_of_getElem? (i := 226) rfl)
theorem uz_2224 : vz_2224 ∈ lw_tbl := sub_16 (List.mem_of_getElem? (i := 227) rfl)
theorem uz_2225 : vz_2225 ∈ lw_tbl := sub_16 (List.mem_of_getElem? (i := 228) rfl)
theorem uz_2226 : vz_2226 ∈ lw_tbl := sub_16 (List.mem_of_getElem? (i := 229) rfl)
theorem uz_2227 : vz_2227 ∈ lw_tbl := sub_16 (List.mem_of_getElem? (i := 230) rfl)
theorem uz_2228 : vz_2228 ∈ lw_tbl := sub_16 (List.mem_of_getElem? (i := 231) rfl)
theorem uz_2229 : vz_2229 ∈ lw_tbl := sub_16 (List.mem_of_getElem? (i := 232) rfl)
theorem uz_2230 : vz_2230 ∈ lw_tbl := sub_16 (List.mem_of_getElem? (i := 233) rfl)
theorem uz_2231 : vz_2231 ∈ lw_tbl := sub_16 (List.mem_of_getElem? (i := 234) rfl)
theorem uz_2232 : vz_2232 ∈ lw_tbl := sub_16 (List.mem_of_getElem? (i := 235) rfl)
theorem uz_2233 : vz_2233 ∈ lw_tbl := sub_16 (List.mem_of_getElem? (i := 236) rfl)
theorem uz_2234 : vz_2234 ∈ lw_tbl := sub_16 (List.mem_of_getElem? (i := 239) rfl)
theorem uz_2235 : vz_2235 ∈ lw_tbl := sub_17 (List.mem_of_getElem? (i := 0) rfl)
theorem uz_2236 : vz_2236 ∈ lw_tbl := sub_17 (List.mem_of_getElem? (i := 1) rfl)
theorem uz_2237 : vz_2237 ∈ lw_tbl := sub_17 (List.mem_of_getElem? (i := 2) rfl)
theorem uz_2238 : vz_2238 ∈ lw_tbl := sub_17 (List.mem_of_getElem? (i := 4) rfl)
theorem uz_2239 : vz_2239 ∈ lw_tbl := sub_17 (List.mem_of_getElem? (i := 6) rfl)
theorem uz_2240 : vz_2240 ∈ lw_tbl := sub_17 (List.mem_of_getElem? (i := 7) rfl)
theorem uz_2241 : vz_2241 ∈ lw_tbl := sub_17 (List.mem_of_getElem? (i := 8) rfl)
theorem uz_2242 : vz_2242 ∈ lw_tbl := sub_17 (List.mem_of_getElem? (i := 9) rfl)
theorem uz_2243 : vz_2243 ∈ lw_tbl := sub_17 (List.mem_of_getElem? (i := 10) rfl)
theorem uz_2244 : vz_2244 ∈ lw_tbl := sub_17 (List.mem_of_getElem? (i := 11) rfl)
theorem uz_2245 : vz_2245 ∈ lw_tbl := sub_17 (List.mem_of_getElem? (i := 12) rfl)
theorem uz_2246 : vz_2246 ∈ lw_tbl := sub_17 (List.mem_of_getElem? (i := 15) rfl)
theorem uz_2247 : vz_2247 ∈ lw_tbl := sub_17 (List.mem_of_getElem? (i := 16) rfl)
theorem uz_2248 : vz_2248 ∈ lw_tbl := sub_17 (List.mem_of_getElem? (i := 17) rfl)
theorem uz_2249 : vz_2249 ∈ lw_tbl := sub_17 (List.mem_of_getElem? (i := 19) rfl)
theorem uz_2250 : vz_2250 ∈ lw_tbl := sub_17 (List.mem_of_getElem? (i := 20) rfl)
theorem uz_2251 : vz_2251 ∈ lw_tbl := sub_17 (List.mem_of_getElem? (i := 21) rfl)
theorem uz_2252 : vz_2252 ∈ lw_tbl := sub_17 (List.mem_of_getElem? (i := 22) rfl)
theorem uz_2253 : vz_2253 ∈ lw_tbl := sub_17 (List.mem_of_getElem? (i := 34) rfl)
theorem uz_2254 : vz_2254 ∈ lw_tbl := sub_17 (List.mem_of_getElem? (i := 35) rfl)
theorem uz_2255 : vz_2255 ∈ lw_tbl := sub_17 (List.mem_of_getElem? (i := 36) rfl)
theorem uz_2256 : vz_2256 ∈ lw_tbl := sub_17 (List.mem_of_getElem? (i := 37) rfl)
theorem uz_2257 : vz_2257 ∈ lw_tbl := sub_17 (List.mem_of_getElem? (i := 39) rfl)
theorem uz_2258 : vz_2258 ∈ lw_tbl := sub_17 (List.mem_of_getElem? (i := 42) rfl)
theorem uz_2259 : vz_2259 ∈ lw_tbl := sub_17 (List.mem_of_getElem? (i := 45) rfl)
theorem uz_2260 : vz_2260 ∈ lw_tbl := sub_17 (List.mem_of_getElem? (i := 46) rfl)
theorem uz_2261 : vz_2261 ∈ lw_tbl := sub_17 (List.mem_of_getElem? (i := 51) rfl)
theorem uz_2262 : vz_2262 ∈ lw_tbl := sub_17 (List.mem_of_getElem? (i := 61) rfl)
theorem uz_2263 : vz_2263 ∈ lw_tbl := sub_17 (List.mem_of_getElem? (i := 62) rfl)
theorem uGz_z1 (b s : Nat) : xall (fun _ a => a ∈ lw_tbl) 1 b s Gz_z1 := And.intro uz_0 uz_0
theorem uGz_z2 (b s : Nat) : xall (fun _ a => a ∈ lw_tbl) 2 b s Gz_z2 := And.intro (uGz_z1 b (2 * s)) (uGz_z1 (b + s) (2 * s))
theorem uGz_z3 (b s : Nat) : xall (fun _ a => a ∈ lw_tbl) 3 b s Gz_z3 := And.intro (uGz_z2 b (2 * s)) (uGz_z2 (b + s) (2 * s))
theorem uGz_z4 (b s : Nat) : xall (fun _ a => a ∈ lw_tbl) 4 b s Gz_z4 := And.intro (uGz_z3 b (2 * s)) (uGz_z3 (b + s) (2 * s))
theorem uGz_z5 (b s : Nat) : xall (fun _ a => a ∈ lw_tbl) 5 b s Gz_z5 := And.intro (uGz_z4 b (2 * s)) (uGz_z4 (b + s) (2 * s))
theorem uGz_z6 (b s : Nat) : xall (fun _ a => a ∈ lw_tbl) 6 b s Gz_z6 := And.intro (uGz_z5 b (2 * s)) (uGz_z5 (b + s) (2 * s))
theorem uGz_z7 (b s : Nat) : xall (fun _ a => a ∈ lw_tbl) 7 b s Gz_z7 := And.intro (uGz_z6 b (2 * s)) (uGz_z6 (b + s) (2 * s))
theorem uGz_z8 (b s : Nat) : xall (fun _ a => a ∈ lw_tbl) 8 b s Gz_z8 := And.intro (uGz_z7 b (2 * s)) (uGz_z7 (b + s) (2 * s))
theorem uGz_z9 (b s : Nat) : xall (fun _ a => a ∈ lw_tbl) 9 b s Gz_z9 := And.intro (uGz_z8 b (2 * s)) (uGz_z8 (b + s) (2 * s))
theorem uGz_z10 (b s : Nat) : xall (fun _ a => a ∈ lw_tbl) 10 b s Gz_z10 := And.intro (uGz_z9 b (2 * s)) (uGz_z9 (b + s) (2 * s))
theorem uGz_z11 (b s : Nat) : xall (fun _ a => a ∈ lw_tbl) 11 b s Gz_z11 := And.intro (uGz_z10 b (2 * s)) (uGz_z10 (b + s) (2 * s))
theorem uGz_z12 (b s : Nat) : xall (fun _ a => a ∈ lw_tbl) 12 b s Gz_z12 := And.intro (uGz_z11 b (2 * s)) (uGz_z11 (b + s) (2 * s))
theorem uGz_0 (b s : Nat) : xall (fun _ a => a ∈ lw_tbl) 1 b s Gz_0 := And.intro uz_0 uz_2048
theorem uGz_1 (b s : Nat) : xall (fun _ a => a ∈ lw_tbl) 1 b s Gz_1 := And.intro uz_1024 uz_0
theorem uGz_2 (b s : Nat) : xall (fun _ a => a ∈ lw_tbl) 2 b s Gz_2 := And.intro (uGz_0 b (2 * s)) (uGz_1 (b + s) (2 * s))
theorem uGz_3 (b s : Nat) : xall (fun _ a => a ∈ lw_tbl) 1 b s Gz_3 := And.intro uz_512 uz_0
theorem uGz_4 (b s : Nat) : xall (fun _ a => a ∈ lw_tbl) 1 b s Gz_4 := And.intro uz_1536 uz_0
theorem uGz_5 (b s : Nat) : xall (fun _ a => a ∈ lw_tbl) 2 b s Gz_5 := And.intro (uGz_3 b (2 * s)) (uGz_4 (b + s) (2 * s))
theorem uGz_6 (b s : Nat) : xall (fun _ a => a ∈ lw_tbl) 3 b s Gz_6 := And.intro (uGz_2 b (2 * s)) (uGz_5 (b + s) (2 * s))
theorem uGz_7 (b s : Nat) : xall (fun _ a => a ∈ lw_tbl) 1 b s Gz_7 := And.intro uz_256 uz_0
theorem uGz_8 (b s : Nat) : xall (fun _ a => a ∈ lw_tbl) 1 b s Gz_8 := And.intro uz_1280 uz_0
theorem uGz_9 (b s : Nat) : xall (fun _ a => a ∈ lw_tbl) 2 b s Gz_9 := And.intro (uGz_7 b (2 * s)) (uGz_8 (b + s) (2 * s))
theorem uGz_10 (b s : Nat) : xall (fun _ a => a ∈ lw_tbl) 1 b s Gz_10 := And.intro uz_768 uz_0
theorem uGz_11 (b s : Nat) : xall (fun _ a => a ∈ lw_tbl) 1 b s Gz_11 := And.intro uz_1792 uz_0
theorem uGz_12 (b s : Nat) : xall (fun _ a => a ∈ lw_tbl) 2 b s Gz_12 := And.intro (uGz_10 b (2 * s)) (uGz_11 (b + s) (2 * s))
theorem uGz_13 (b s : Nat) : xall (fun _ a => a ∈ lw_tbl) 3 b s Gz_13 := And.intro (uGz_9 b (2 * s)) (uGz_12 (b + s) (2 * s))
theorem uGz_14 (b s : Nat) : xall (fun _ a => a ∈ lw_tbl) 4 b s Gz_14 := And.intro (uGz_6 b (2 * s)) (uGz_13 (b + s) (2 * s))
theorem uGz_15 (b s : Nat) : xall (fun _ a => a ∈ lw_tbl) 1 b s Gz_15 := And.intro uz_128 uz_2176
theorem uGz_16 (b s : Nat) : xall (fun _ a => a ∈ lw_tbl) 1 b s Gz_16 := And.intro uz_1152 uz_0
theorem uGz_17 (b s : Nat) : xall (fun _ a => a ∈ lw_tbl) 2 b s Gz_17 := And.intro (uGz_15 b (2 * s)) (uGz_16 (b + s) (2 * s))
theorem uGz_18 (b s : Nat) : xall (fun _ a => a ∈ lw_tbl) 1 b s Gz_18 := And.intro uz_640 uz_0
theorem uGz_19 (b s : Nat) : xall (fun _ a => a ∈ lw_tbl) 1 b s Gz_19 := And.intro uz_1664 uz_0
theorem uGz_20 (b s : Nat) : xall (fun _ a => a ∈ lw_tbl) 2 b s Gz_20 := And.intro (uGz_18 b (2 * s)) (uGz_19 (b + s) (2 * s))
theorem uGz_21 (b s : Nat) : xall (fun _ a => a ∈ lw_tbl) 3 b s Gz_21 := And.intro (uGz_17 b (2 * s)) (uGz_20 (b + s) (2 * s))
theorem uGz_22 (b s : Nat) : xall (fun _ a => a ∈ lw_tbl) 1 b s Gz_22 := And.intro uz_384 uz_0
theorem uGz_23 (b s : Nat) : xall (fun _ a => a ∈ lw_tbl) 1 b s Gz_23 := And.intro uz_1408 uz_0
theorem uGz_24 (b s : Nat) : xall (fun _ a => a ∈ lw_tbl) 2 b s Gz_24 := And.intro (uGz_22 b (2 * s)) (uGz_23 (b + s) (2 * s))
theorem uGz_25 (b s : Nat) : xall (fun _ a => a ∈ lw_tbl) 1 b s Gz_25 := And.intro uz_896 uz_0
theorem uGz_26 (b s : Nat) : xall (fun _ a => a ∈ lw_tbl) 1 b s Gz_26 := And.intro uz_1920 uz_0
theorem uGz_27 (b s : Nat) : xall (fun _ a => a ∈ lw_tbl) 2 b s Gz_27 := And.intro (uGz_25 b (2 * s)) (uGz_26 (b + s) (2 * s))
theorem uGz_28 (b s : Nat) : xall (fun _ a => a ∈ lw_tbl) 3 b s Gz_28 := And.intro (uGz_24 b (2 * s)) (uGz_27 (b + s) (2 * s))
theorem uGz_29 (b s : Nat) : xall (fun _ a => a ∈ lw_tbl) 4 b s Gz_29 := And.intro (uGz_21 b (2 * s)) (uGz_28 (b + s) (2 * s))
theorem uGz_30 (b s : Nat) : xall (fun _ a => a ∈ lw_tbl) 5 b s Gz_30 := And.intro (uGz_14 b (2 * s)) (uGz_29 (b + s) (2 * s))
theorem uGz_31 (b s : Nat) : xall (fun _ a => a ∈ lw_tbl) 1 b s Gz_31 := And.intro uz_64 uz_2112
theorem uGz_32 (b s : Nat) : xall (fun _ a => a ∈ lw_tbl) 1 b s Gz_32 := And.intro uz_1088 uz_0
theorem uGz_33 (b s : Nat) : xall (fun _ a => a ∈ lw_tbl) 2 b s Gz_33 := And.intro (uGz_31 b (2 * s)) (uGz_32 (b + s) (2 * s))
theorem uGz_34 (b s : Nat) : xall (fun _ a => a ∈ lw_tbl) 1 b s Gz_34 := And.intro uz_576 uz_0
theorem uGz_35 (b s : Nat) : xall (fun _ a => a ∈ lw_tbl) 1 b s Gz_35 := And.intro uz_1600 uz_0
theorem uGz_36 (b s : Nat) : xall (fun _ a => a ∈ lw_tbl) 2 b s Gz_36 := And.intro (uGz_34 b (2 * s)) (uGz_35 (b + s) (2 * s))
theorem uGz_37 (b s : Nat) : xall (fun _ a => a ∈ lw_tbl) 3 b s Gz_37 := And.intro (uGz_33 b (2 * s)) (uGz_36 (b + s) (2 * s))
theorem uGz_38 (b s : Nat) : xall (fun _ a => a ∈ lw_tbl) 1 b s Gz_38 := And.intro uz_320 uz_0
theorem uGz_39 (b s : Nat) : xall (fun _ a => a ∈ lw_tbl) 1 b s Gz_39 := And.intro uz_1344 uz_0
theorem uGz_40 (b s : Nat) : xall (fun _ a => a ∈ lw_tbl) 2 b s Gz_40 := And.intro (uGz_38 b (2 * s)) (uGz_39 (b + s) (2 * s))
theorem uGz_41 (b s : Nat) : xall (fun _ a => a ∈ lw_tbl) 1 b s Gz_41 := And.intro uz_832 uz_0
theorem uGz_42 (b s : Nat) : xall (fun _ a => a ∈ lw_tbl) 1 b s Gz_42 := And.intro uz_1856 uz_0
theorem uGz_43 (b s : Nat) : xall (fun _ a => a ∈ lw_tbl) 2 b s Gz_43 := And.intro (uGz_41 b (2 * s)) (uGz_42 (b + s) (2 * s))
theorem uGz_44 (b s : Nat) : xall (fun _ a => a ∈ lw_tbl) 3 b s Gz_44 := And.intro (uGz_40 b (2 * s)) (uGz_43 (b + s) (2 * s))
theorem uGz_45 (b s : Nat) : xall (fun _ a => a ∈ lw_tbl) 4 b s Gz_45 := And.intro (uGz_37 b (2 * s)) (uGz_44 (b + s) (2 * s))
theorem uGz_46 (b s : Nat) : xall (fun _ a => a ∈ lw_tbl) 1 b s Gz_46 := And.intro uz_192 uz_2240
theorem uGz_47 (b s : Nat) : xall (fun _ a => a ∈ lw_tbl) 1 b s Gz_47 := And.intro uz_1216 uz_0
theorem uGz_48 (b s : Nat) : xall (fun _ a => a ∈ lw_tbl) 2 b s Gz_48 := And.intro (uGz_46 b (2 * s)) (uGz_47 (b + s) (2 * s))
theorem uGz_49 (b s : Nat) : xall (fun _ a => a ∈ lw_tbl) 1 b s Gz_49 := And.intro uz_704 uz_0
theorem uGz_50 (b s : Nat) : xall (fun _ a => a ∈ lw_tbl) 1 b s Gz_50 := And.intro uz_1728 uz_0
theorem uGz_51 (b s : Nat) : xall (fun _ a => a ∈ lw_tbl) 2 b s Gz_51 := And.intro (uGz_49 b (2 * s)) (uGz_50 (b + s) (2 * s))
theorem uGz_52 (b s : Nat) : xall (fun _ a => a ∈ lw_tbl) 3 b s Gz_52 := And.intro (uGz_48 b (2 * s)) (uGz_51 (b + s) (2 * s))
theorem uGz_53 (b s : Nat) : xall (fun _ a => a ∈ lw_tbl) 1 b s Gz_53 := And.intro uz_448 uz_0
theorem uGz_54 (b s : Nat) : xall (fun _ a => a ∈ lw_tbl) 1 b s Gz_54 := And.intro uz_1472 uz_0
theorem uGz_55 (b s : Nat) : xall (fun _ a => a ∈ lw_tbl) 2 b s Gz_55 := And.intro (uGz_53 b (2 * s)) (uGz_54 (b + s) (2 * s))
theorem uGz_56 (b s : Nat) : xall (fun _ a => a ∈ lw_tbl) 1 b s Gz_56 := And.intro uz_960 uz_0
theorem uGz_57 (b s : Nat) : xall (fun _ a => a ∈ lw_tbl) 1 b s Gz_57 := And.intro uz_1984 uz_0
theorem uGz_58 (b s : Nat) : xall (fun _ a => a ∈ lw_tbl) 2 b s Gz_58 := And.intro (uGz_56 b (2 * s)) (uGz_57 (b + s) (2 * s))
theorem uGz_59 (b s : Nat) : xall (fun _ a => a ∈ lw_tbl) 3 b s Gz_59 := And.intro (uGz_55 b (2 * s)) (uGz_58 (b + s) (2 * s))
theorem uGz_60 (b s : Nat) : xall (fun _ a => a ∈ lw_tbl) 4 b s Gz_60 := And.intro (uGz_52 b (2 * s)) (uGz_59 (b + s) (2 * s))
theorem uGz_61 (b s : Nat) : xall (fun _ a => a ∈ lw_tbl) 5 b s Gz_61 := And.intro (uGz_45 b (2 * s)) (uGz_60 (b + s) (2 * s))
theorem uGz_62 (b s : Nat) : xall (fun _ a => a ∈ lw_tbl) 6 b s Gz_62 := And.intro (uGz_30 b (2 * s)) (uGz_61 (b + s) (2 * s))
theorem uGz_63 (b s : Nat) : xall (fun _ a => a ∈ lw_tbl) 1 b s Gz_63 := And.intro uz_32 uz_2080
theorem uGz_64 (b s : Nat) : xall (fun _ a => a ∈ lw_tbl) 1 b s Gz_64 := And.intro uz_1056 uz_0
theorem uGz_65 (b s : Nat) : xall (fun _ a => a ∈ lw_tbl) 2 b s Gz_65 := And.intro (uGz_63 b (2 * s)) (uGz_64 (b + s) (2 * s))
theorem uGz_66 (b s : Nat) : xall (fun _ a => a ∈ lw_tbl) 1 b s Gz_66 := And.intro uz_544 uz_0
theorem uGz_67 (b s : Nat) : xall (fun _ a => a ∈ lw_tbl) 1 b s Gz_67 := And.intro uz_1568 uz_0
theorem uGz_68 (b s : Nat) : xall (fun _ a => a ∈ lw_tbl) 2 b s Gz_68 := And.intro (uGz_66 b (2 * s)) (uGz_67 (b + s) (2 * s))
theorem uGz_69 (b s : Nat) : xall (fun _ a => a ∈ lw_tbl) 3 b s Gz_69 := And.intro (uGz_65 b (2 * s)) (uGz_68 (b + s) (2 * s))
theorem uGz_70 (b s : Nat) : xall (fun _ a => a ∈ lw_tbl) 1 b s Gz_70 := And.intro uz_288 uz_0
theorem uGz_71 (b s : Nat) : xall (fun _ a => a ∈ lw_tbl) 1 b s Gz_71 := And.intro uz_1312 uz_0
theorem uGz_72 (b s : Nat) : xall (fun _ a => a ∈ lw_tbl) 2 b s Gz_72 := And.intro (uGz_70 b (2 * s)) (uGz_71 (b + s) (2 * s))
theorem uGz_73 (b s : Nat) : xall (fun _ a => a ∈ lw_tbl) 1 b s Gz_73 := And.intro uz_800 uz_0
theorem uGz_74 (b s : Nat) : xall (fun _ a => a ∈ lw_tbl) 1 b s Gz_74 := And.intro uz_1824 uz_0
theorem uGz_75 (b s : Nat) : xall (fun _ a => a ∈ lw_tbl) 2 b s Gz_75 := And.intro (uGz_73 b (2 * s)) (uGz_74 (b + s) (2 * s))
theorem uGz_76 (b s : Nat) : xall (fun _ a => a ∈ lw_tbl) 3 b s Gz_76 := And.intro (uGz_72 b (2 * s)) (uGz_75 (b + s) (2 * s))
theorem uGz_77 (b s : Nat) : xall (fun _ a => a ∈ lw_tbl) 4 b s Gz_77 := And.intro (uGz_69 b (2 * s)) (uGz_76 (b + s) (2 * s))
theorem uGz_78 (b s : Nat) : xall (fun _ a => a ∈ lw_tbl) 1 b s Gz_78 := And.intro uz_160 uz_2208
theorem uGz_79 (b s : Nat) : xall (fun _ a => a ∈ lw_tbl) 1 b s Gz_79 := And.intro uz_1184 uz_0
theorem uGz_80 (b s : Nat) : xall (fun _ a => a ∈ lw_tbl) 2 b s Gz_80 := And.intro (uGz_78 b (2 * s)) (uGz_79 (b + s) (2 * s))
theorem uGz_81 (b s : Nat) : xall (fun _ a => a ∈ lw_tbl) 1 b s Gz_81 := And.intro uz_672 uz_0
theorem uGz_82 (b s : Nat) : xall (fun _ a => a ∈ lw_tbl) 1 b s Gz_82 := And.intro uz_1696 uz_0
theorem uGz_83 (b s : Nat) : xall (fun _ a => a ∈ lw_tbl) 2 b s Gz_83 := And.intro (uGz_81 b (2 * s)) (uGz_82 (b + s) (2 * s))
theorem uGz_84 (b s : Nat) : xall (fun _ a => a ∈ lw_tbl) 3 b s Gz_84 := And.intro (uGz_80 b (2 * s)) (uGz_83 (b + s) (2 * s))
theorem uGz_85 (b s : Nat) : xall (fun _ a => a ∈ lw_tbl) 1 b s Gz_85 := And.intro uz_416 uz_0
theorem uGz_86 (b s : Nat) : xall (fun _ a => a ∈ lw_tbl) 1 b s Gz_86 := And.intro uz_1440 uz_0
theorem uGz_87 (b s : Nat) : xall (fun _ a => a ∈ lw_tbl) 2 b s Gz_87 := And.intro (uGz_85 b (2 * s)) (uGz_86 (b + s) (2 * s))
theorem uGz_88 (b s : Nat) : xall (fun _ a => a ∈ lw_tbl) 1 b s Gz_88 := And.intro uz_928 uz_0
theorem uGz_89 (b s : Nat) : xall (fun _ a => a ∈ lw_tbl) 1 b s Gz_89 := And.intro uz_1952 uz_0
theorem uGz_90 (b s : Nat) : xall (fun _ a => a ∈ lw_tbl) 2 b s Gz_90 := And.intro (uGz_88 b (2 * s)) (uGz_89 (b + s) (2 * s))
theorem uGz_91 (b s : Nat) : xall (fun _ a => a ∈ lw_tbl) 3 b s Gz_91 := And.intro (uGz_87 b (2 * s)) (uGz_90 (b + s) (2 * s))
theorem uGz_92 (b s : Nat) : xall (fun _ a => a ∈ lw_tbl) 4 b s Gz_92 := And.intro (uGz_84 b (2 * s)) (uGz_91 (b + s) (2 * s))
theorem uGz_93 (b s : Nat) : xall (fun _ a => a ∈ lw_tbl) 5 b s Gz_93 := And.intro (uGz_77 b (2 * s)) (uGz_92 (b + s) (2 * s))
theorem uGz_94 (b s : Nat) : xall (fun _ a => a ∈ lw_tbl) 1 b s Gz_94 := And.intro uz_96 uz_2144
theorem uGz_95 (b s : Nat) : xall (fun _ a => a ∈ lw_tbl) 1 b s Gz_95 := And.intro uz_1120 uz_0
theorem uGz_96 (b s : Nat) : xall (fun _ a => a ∈ lw_tbl) 2 b s Gz_96 := And.intro (uGz_94 b (2 * s)) (uGz_95 (b + s) (2 * s))
theorem uGz_97 (b s : Nat) : xall (fun _ a => a ∈ lw_tbl) 1 b s Gz_97 := And.intro uz_608 uz_0
theorem uGz_98 (b s : Nat) : xall (fun _ a => a ∈ lw_tbl) 1 b s Gz_98 := And.intro uz_1632 uz_0
theorem uGz_99 (b s : Nat) : xall (fun _ a => a ∈ lw_tbl) 2 b s Gz_99 := And.intro (uGz_97 b (2 * s)) (uGz_98 (b + s) (2 * s))
theorem uGz_100 (b s : Nat) : xall (fun _ a => a ∈ lw_tbl) 3 b s Gz_100 := And.intro (uGz_96 b (2 * s)) (uGz_99 (b + s) (2 * s))
theorem uGz_101 (b s : Nat) : xall (fun _ a => a ∈ lw_tbl) 1 b s Gz_101 := And.intro uz_352 uz_0
theorem uGz_102 (b s : Nat) : xall (fun _ a => a ∈ lw_tbl) 1 b s Gz_102 := And.intro uz_1376 uz_0
theorem uGz_103 (b s : Nat) : xall (fun _ a => a ∈ lw_tbl) 2 b s Gz_103 := And.intro (uGz_101 b (2 * s)) (uGz_102 (b + s) (2 * s))
theorem uGz_104 (b s : Nat) : xall (fun _ a => a ∈ lw_tbl) 1 b s Gz_104 := And.intro uz_864 uz_0
theorem uGz_105 (b s : Nat) : xall (fun _ a => a ∈ lw_tbl) 1 b s Gz_105 := And.intro uz_1888 uz_0
theorem uGz_106 (b s : Nat) : xall (fun _ a => a ∈ lw_tbl) 2 b s Gz_106 := And.intro (uGz_104 b (2 * s)) (uGz_105 (b + s) (2 * s))
theorem uGz_107 (b s : Nat) : xall (fun _ a => a ∈ lw_tbl) 3 b s Gz_107 := And.intro (uGz_103 b (2 * s)) (uGz_106 (b + s) (2 * s))
theorem uGz_108 (b s : Nat) : xall (fun _ a => a ∈ lw_tbl) 4 b s Gz_108 := And.intro (uGz_100 b (2 * s)) (uGz_107 (b + s) (2 * s))
theorem uGz_109 (b s : Nat) : xall (fun _ a => a ∈ lw_tbl) 1 b s Gz_109 := And.intro uz_224 uz_0
theorem uGz_110 (b s : Nat) : xall (fun _ a => a ∈ lw_tbl) 1 b s Gz_110 := And.intro uz_1248 uz_0
theorem uGz_111 (b s : Nat) : xall (fun _ a => a ∈ lw_tbl) 2 b s Gz_111 := And.intro (uGz_109 b (2 * s)) (uGz_110 (b + s) (2 * s))
theorem uGz_112 (b s : Nat) : xall (fun _ a => a ∈ lw_tbl) 1 b s Gz_112 := And.intro uz_736 uz_0
theorem uGz_113 (b s : Nat) : xall (fun _ a => a ∈ lw_tbl) 1 b s Gz_113 := And.intro uz_1760 uz_0
theorem uGz_114 (b s : Nat) : xall (fun _ a => a ∈ lw_tbl) 2 b s Gz_114 := And.intro (uGz_112 b (2 * s)) (uGz_113 (b + s) (2 * s))
theorem uGz_115 (b s : Nat) : xall (fun _ a => a ∈ lw_tbl) 3 b s Gz_115 := And.intro (uGz_111 b (2 * s)) (uGz_114 (b + s) (2 * s))
theorem uGz_116 (b s : Nat) : xall (fun _ a => a ∈ lw_tbl) 1 b s Gz_116 := And.intro uz_480 uz_0
theorem uGz_117 (b s : Nat) : xall (fun _ a => a ∈ lw_tbl) 1 b s Gz_117 := And.intro uz_1504 uz_0
theorem uGz_118 (b s : Nat) : xall (fun _ a => a ∈ lw_tbl) 2 b s Gz_118 := And.intro (uGz_116 b (2 * s)) (uGz_117 (b + s) (2 * s))
theorem uGz_119 (b s : Nat) : xall (fun _ a => a ∈ lw_tbl) 1 b s Gz_119 := And.intro uz_992 uz_0
theorem uGz_120 (b s : Nat) : xall (fun _ a => a ∈ lw_tbl) 1 b s Gz_120 := And.intro uz_2016 uz_0
theorem uGz_121 (b s : Nat) : xall (fun _ a => a ∈ lw_tbl) 2 b s Gz_121 := And.intro (uGz_119 b (2 * s)) (uGz_120 (b + s) (2 * s))
theorem uGz_122 (b s : Nat) : xall (fun _ a => a ∈ lw_tbl) 3 b s Gz_122 := And.intro (uGz_118 b (2 * s)) (uGz_121 (b + s) (2 * s))
theorem uGz_123 (b s : Nat) : xall (fun _ a => a ∈ lw_tbl) 4 b s Gz_123 := And.intro (uGz_115 b (2 * s)) (uGz_122 (b + s) (2 * s))
theorem uGz_124 (b s : Nat) : xall (fun _ a => a ∈ lw_tbl) 5 b s Gz_124 := And.intro (uGz_108 b (2 * s)) (uGz_123 (b + s) (2 * s))
theorem uGz_125 (b s : Nat) : xall (fun _ a => a ∈ lw_tbl) 6 b s Gz_125 := And.intro (uGz_93 b (2 * s)) (uGz_124 (b + s) (2 * s))
theorem uGz_126 (b s : Nat) : xall (fun _ a => a ∈ lw_tbl) 7 b s Gz_126 := And.intro (uGz_62 b (2 * s)) (uGz_125 (b + s) (2 * s))
theorem uGz_127 (b s : Nat) : xall (fun _ a => a ∈ lw_tbl) 1 b s Gz_127 := And.intro uz_16 uz_2064
theorem uGz_128 (b s : Nat) : xall (fun _ a => a ∈ lw_tbl) 1 b s Gz_128 := And.intro uz_1040 uz_0
theorem uGz_129 (b s : Nat) : xall (fun _ a => a ∈ lw_tbl) 2 b s Gz_129 := And.intro (uGz_127 b (2 * s)) (uGz_128 (b + s) (2 * s))
theorem uGz_130 (b s : Nat) : xall (fun _ a => a ∈ lw_tbl) 1 b s Gz_130 := And.intro uz_528 uz_0
theorem uGz_131 (b s : Nat) : xall (fun _ a => a ∈ lw_tbl) 1 b s Gz_131 := And.intro uz_1552 uz_0
theorem uGz_132 (b s : Nat) : xall (fun _ a => a ∈ lw_tbl) 2 b s Gz_132 := And.intro (uGz_130 b (2 * s)) (uGz_131 (b + s) (2 * s))
theorem uGz_133 (b s : Nat) : xall (fun _ a => a ∈ lw_tbl) 3 b s Gz_133 := And.intro (uGz_129 b (2 * s)) (uGz_132 (b + s) (2 * s))
theorem uGz_134 (b s : Nat) : xall (fun _ a => a ∈ lw_tbl) 1 b s Gz_134 := And.intro uz_272 uz_0
theorem uGz_135 (b s : Nat) : xall (fun _ a => a ∈ lw_tbl) 1 b s Gz_135 := And.intro uz_1296 uz_0
theorem uGz_136 (b s : Nat) : xall (fun _ a => a ∈ lw_tbl) 2 b s Gz_136 := And.intro (uGz_134 b (2 * s)) (uGz_135 (b + s) (2 * s))
theorem uGz_137 (b s : Nat) : xall (fun _ a => a ∈ lw_tbl) 1 b s Gz_137 := And.intro uz_784 uz_0
theorem uGz_138 (b s : Nat) : xall (fun _ a => a ∈ lw_tbl) 1 b s Gz_138 := And.intro uz_1808 uz_0
theorem uGz_139 (b s : Nat) : xall (fun _ a => a ∈ lw_tbl) 2 b s Gz_139 := And.intro (uGz_137 b (2 * s)) (uGz_138 (b + s) (2 * s))
theorem uGz_140 (b s : Nat) : xall (fun _ a => a ∈ lw_tbl) 3 b s Gz_140 := And.intro (uGz_136 b (2 * s)) (uGz_139 (b + s) (2 * s))
theorem uGz_141 (b s : Nat) : xall (fun _ a => a ∈ lw_tbl) 4 b s Gz_141 := And.intro (uGz_133 b (2 * s)) (uGz_140 (b + s) (2 * s))
theorem uGz_142 (b s : Nat) : xall (fun _ a => a ∈ lw_tbl) 1 b s Gz_142 := And.intro uz_144 uz_2192
theorem uGz_143 (b s : Nat) : xall (fun _ a => a ∈ lw_tbl) 1 b s Gz_143 := And.intro uz_1168 uz_0
theorem uGz_144 (b s : Nat) : xall (fun _ a => a ∈ lw_tbl) 2 b s Gz_144 := And.intro (uGz_142 b (2 * s)) (uGz_143 (b + s) (2 * s))
theorem uGz_145 (b s : Nat) : xall (fun _ a => a ∈ lw_tbl) 1 b s Gz_145 := And.intro uz_656 uz_0
theorem uGz_146 (b s : Nat) : xall (fun _ a => a ∈ lw_tbl) 1 b s Gz_146 := And.intro uz_1680 uz_0
theorem uGz_147 (b s : Nat) : xall (fun _ a => a ∈ lw_tbl) 2 b s Gz_147 := And.intro (uGz_145 b (2 * s)) (uGz_146 (b + s) (2 * s))
theorem uGz_148 (b s : Nat) : xall (fun _ a => a ∈ lw_tbl) 3 b s Gz_148 := And.intro (uGz_144 b (2 * s)) (uGz_147 (b + s) (2 * s))
theorem uGz_149 (b s : Nat) : xall (fun _ a => a ∈ lw_tbl) 1 b s Gz_149 := And.intro uz_400 uz_0
theorem uGz_150 (b s : Nat) : xall (fun _ a => a ∈ lw_tbl) 1 b s Gz_150 := And.intro uz_1424 uz_0
theorem uGz_151 (b s : Nat) : xall (fun _ a => a ∈ lw_tbl) 2 b s Gz_151 := And.intro (uGz_149 b (2 * s)) (uGz_150 (b + s) (2 * s))
theorem uGz_152 (b s : Nat) : xall (fun _ a => a ∈ lw_tbl) 1 b s Gz_152 := And.intro uz_912 uz_0
theorem uGz_153 (b s : Nat) : xall (fun _ a => a ∈ lw_tbl) 1 b s Gz_153 := And.intro uz_1936 uz_0
theorem uGz_154 (b s : Nat) : xall (fun _ a => a ∈ lw_tbl) 2 b s Gz_154 := And.intro (uGz_152 b (2 * s)) (uGz_153 (b + s) (2 * s))
theorem uGz_155 (b s : Nat) : xall (fun _ a => a ∈ lw_tbl) 3 b s Gz_155 := And.intro (uGz_151 b (2 * s)) (uGz_154 (b + s) (2 * s))
theorem uGz_156 (b s : Nat) : xall (fun _ a => a ∈ lw_tbl) 4 b s Gz_156 := And.intro (uGz_148 b (2 * s)) (uGz_155 (b + s) (2 * s))
theorem uGz_157 (b s : Nat) : xall (fun _ a => a ∈ lw_tbl) 5 b s Gz_157 := And.intro (uGz_141 b (2 * s)) (uGz_156 (b + s) (2 * s))
theorem uGz_158 (b s : Nat) : xall (fun _ a => a ∈ lw_tbl) 1 b s Gz_158 := And.intro uz_80 uz_2128
theorem uGz_159 (b s : Nat) : xall (fun _ a => a ∈ lw_tbl) 1 b s Gz_159 := And.intro uz_1104 uz_0
theorem uGz_160 (b s : Nat) : xall (fun _ a => a ∈ lw_tbl) 2 b s Gz_160 := And.intro (uGz_158 b (2 * s)) (uGz_159 (b + s) (2 * s))
theorem uGz_161 (b s : Nat) : xall (fun _ a => a ∈ lw_tbl) 1 b s Gz_161 := And.intro uz_592 uz_0
theorem uGz_162 (b s : Nat) : xall (fun _ a => a ∈ lw_tbl) 1 b s Gz_162 := And.intro uz_1616 uz_0
theorem uGz_163 (b s : Nat) : xall (fun _ a => a ∈ lw_tbl) 2 b s Gz_163 := And.intro (uGz_161 b (2 * s)) (uGz_162 (b + s) (2 * s))
theorem uGz_164 (b s : Nat) : xall (fun _ a => a ∈ lw_tbl) 3 b s Gz_164 := And.intro (uGz_160 b (2 * s)) (uGz_163 (b + s) (2 * s))
theorem uGz_165 (b s : Nat) : xall (fun _ a => a ∈ lw_tbl) 1 b s Gz_165 := And.intro uz_336 uz_0
theorem uGz_166 (b s : Nat) : xall (fun _ a => a ∈ lw_tbl) 1 b s Gz_166 := And.intro uz_1360 uz_0
theorem uGz_167 (b s : Nat) : xall (fun _ a => a ∈ lw_tbl) 2 b s Gz_167 := And.intro (uGz_165 b (2 * s)) (uGz_166 (b + s) (2 * s))
theorem uGz_168 (b s : Nat) : xall (fun _ a => a ∈ lw_tbl) 1 b s Gz_168 := And.intro uz_848 uz_0
theorem uGz_169 (b s : Nat) : xall (fun _ a => a ∈ lw_tbl) 1 b s Gz_169 := And.intro uz_1872 uz_0
theorem uGz_170 (b s : Nat) : xall (fun _ a => a ∈ lw_tbl) 2 b s Gz_170 := And.intro (uGz_168 b (2 * s)) (uGz_169 (b + s) (2 * s))
theorem uGz_171 (b s : Nat) : xall (fun _ a => a ∈ lw_tbl) 3 b s Gz_171 := And.intro (uGz_167 b (2 * s)) (uGz_170 (b + s) (2 * s))
theorem uGz_172 (b s : Nat) : xall (fun _ a => a ∈ lw_tbl) 4 b s Gz_172 := And.intro (uGz_164 b (2 * s)) (uGz_171 (b + s) (2 * s))
theorem uGz_173 (b s : Nat) : xall (fun _ a => a ∈ lw_tbl) 1 b s Gz_173 := And.intro uz_208 uz_2256
theorem uGz_174 (b s : Nat) : xall (fun _ a => a ∈ lw_tbl) 1 b s Gz_174 := And.intro uz_1232 uz_0
theorem uGz_175 (b s : Nat) : xall (fun _ a => a ∈ lw_tbl) 2 b s Gz_175 := And.intro (uGz_173 b (2 * s)) (uGz_174 (b + s) (2 * s))
theorem uGz_176 (b s : Nat) : xall (fun _ a => a ∈ lw_tbl) 1 b s Gz_176 := And.intro uz_720 uz_0
theorem uGz_177 (b s : Nat) : xall (fun _ a => a ∈ lw_tbl) 1 b s Gz_177 := And.intro uz_1744 uz_0
theorem uGz_178 (b s : Nat) : xall (fun _ a => a ∈ lw_tbl) 2 b s Gz_178 := And.intro (uGz_176 b (2 * s)) (uGz_177 (b + s) (2 * s))
theorem uGz_179 (b s : Nat) : xall (fun _ a => a ∈ lw_tbl) 3 b s Gz_179 := And.intro (uGz_175 b (2 * s)) (uGz_178 (b + s) (2 * s))
theorem uGz_180 (b s : Nat) : xall (fun _ a => a ∈ lw_tbl) 1 b s Gz_180 := And.intro uz_464 uz_0
theorem uGz_181 (b s : Nat) : xall (fun _ a => a ∈ lw_tbl) 1 b s Gz_181 := And.intro uz_1488 uz_0
theorem uGz_182 (b s : Nat) : xall (fun _ a => a ∈ lw_tbl) 2 b s Gz_182 := And.intro (uGz_180 b (2 * s)) (uGz_181 (b + s) (2 * s))
theorem uGz_183 (b s : Nat) : xall (fun _ a => a ∈ lw_tbl) 1 b s Gz_183 := And.intro uz_976 uz_0
theorem uGz_184 (b s : Nat) : xall (fun _ a => a ∈ lw_tbl) 1 b s Gz_184 := And.intro uz_2000 uz_0
theorem uGz_185 (b s : Nat) : xall (fun _ a => a ∈ lw_tbl) 2 b s Gz_185 := And.intro (uGz_183 b (2 * s)) (uGz_184 (b + s) (2 * s))
theorem uGz_186 (b s : Nat) : xall (fun _ a => a ∈ lw_tbl) 3 b s Gz_186 := And.intro (uGz_182 b (2 * s)) (uGz_185 (b + s) (2 * s))
theorem uGz_187 (b s : Nat) : xall (fun _ a => a ∈ lw_tbl) 4 b s Gz_187 := And.intro (uGz_179 b (2 * s)) (uGz_186 (b + s) (2 * s))
theorem uGz_188 (b s : Nat) : xall (fun _ a => a ∈ lw_tbl) 5 b s Gz_188 := And.intro (uGz_172 b (2 * s)) (uGz_187 (b + s) (2 * s))
theorem uGz_189 (b s : Nat) : xall (fun _ a => a ∈ lw_tbl) 6 b s Gz_189 := And.intro (uGz_157 b (2 * s)) (uGz_188 (b + s) (2 * s))
theorem uGz_190 (b s : Nat) : xall (fun _ a => a ∈ lw_tbl) 1 b s Gz_190 := And.intro uz_48 uz_2096
theorem uGz_191 (b s : Nat) : xall (fun _ a => a ∈ lw_tbl) 1 b s Gz_191 := And.intro uz_1072 uz_0
theorem uGz_192 (b s : Nat) : xall (fun _ a => a ∈ lw_tbl) 2 b s Gz_192 := And.intro (uGz_190 b (2 * s)) (uGz_191 (b + s) (2 * s))
theorem uGz_193 (b s : Nat) : xall (fun _ a => a ∈ lw_tbl) 1 b s Gz_193 := And.intro uz_560 uz_0
theorem uGz_194 (b s : Nat) : xall (fun _ a => a ∈ lw_tbl) 1 b s Gz_194 := And.intro uz_1584 uz_0
theorem uGz_195 (b s : Nat) : xall (fun _ a => a ∈ lw_tbl) 2 b s Gz_195 := And.intro (uGz_193 b (2 * s)) (uGz_194 (b + s) (2 * s))
theorem uGz_196 (b s : Nat) : xall (fun _ a => a ∈ lw_tbl) 3 b s Gz_196 := And.intro (uGz_192 b (2 * s)) (uGz_195 (b + s) (2 * s))
theorem uGz_197 (b s : Nat) : xall (fun _ a => a ∈ lw_tbl) 1 b s Gz_197 := And.intro uz_304 uz_0
theorem uGz_198 (b s : Nat) : xall (fun _ a => a ∈ lw_tbl) 1 b s Gz_198 := And.intro uz_1328 uz_0
theorem uGz_199 (b s : Nat) : xall (fun _ a => a ∈ lw_tbl) 2 b s Gz_199 := And.intro (uGz_197 b (2 * s)) (uGz_198 (b + s) (2 * s))
theorem uGz_200 (b s : Nat) : xall (fun _ a => a ∈ lw_tbl) 1 b s Gz_200 := And.intro uz_816 uz_0
theorem uGz_201 (b s : Nat) : xall (fun _ a => a ∈ lw_tbl) 1 b s Gz_201 := And.intro uz_1840 uz_0
theorem uGz_202 (b s : Nat) : xall (fun _ a => a ∈ lw_tbl) 2 b s Gz_202 := And.intro (uGz_200 b (2 * s)) (uGz_201 (b + s) (2 * s))
theorem uGz_203 (b s : Nat) : xall (fun _ a => a ∈ lw_tbl) 3 b s Gz_203 := And.intro (uGz_199 b (2 * s)) (uGz_202 (b + s) (2 * s))
theorem uGz_204 (b s : Nat) : xall (fun _ a => a ∈ lw_tbl) 4 b s Gz_204 := And.intro (uGz_196 b (2 * s)) (uGz_203 (b + s) (2 * s))
theorem uGz_205 (b s : Nat) : xall (fun _ a => a ∈ lw_tbl) 1 b s Gz_205 := And.intro uz_176 uz_2224
theorem uGz_206 (b s : Nat) : xall (fun _ a => a ∈ lw_tbl) 1 b s Gz_206 := And.intro uz_1200 uz_0
theorem uGz_207 (b s : Nat) : xall (fun _ a => a ∈ lw_tbl) 2 b s Gz_207 := And.intro (uGz_205 b (2 * s)) (uGz_206 (b + s) (2 * s))
theorem uGz_208 (b s : Nat) : xall (fun _ a => a ∈ lw_tbl) 1 b s Gz_208 := And.intro uz_688 uz_0
theorem uGz_209 (b s : Nat) : xall (fun _ a => a ∈ lw_tbl) 1 b s Gz_209 := And.intro uz_1712 uz_0
theorem uGz_210 (b s : Nat) : xall (fun _ a => a ∈ lw_tbl) 2 b s Gz_210 := And.intro (uGz_208 b (2 * s)) (uGz_209 (b + s) (2 * s))
theorem uGz_211 (b s : Nat) : xall (fun _ a => a ∈ lw_tbl) 3 b s Gz_211 := And.intro (uGz_207 b (2 * s)) (uGz_210 (b + s) (2 * s))
theorem uGz_212 (b s : Nat) : xall (fun _ a => a ∈ lw_tbl) 1 b s Gz_212 := And.intro uz_432 uz_0
theorem uGz_213 (b s : Nat) : xall (fun _ a => a ∈ lw_tbl) 1 b s Gz_213 := And.intro uz_1456 uz_0
theorem uGz_214 (b s : Nat) : xall (fun _ a => a ∈ lw_tbl) 2 b s Gz_214 := And.intro (uGz_212 b (2 * s)) (uGz_213 (b + s) (2 * s))
theorem uGz_215 (b s : Nat) : xall (fun _ a => a ∈ lw_tbl) 1 b s Gz_215 := And.intro uz_944 uz_0
theorem uGz_216 (b s : Nat) : xall (fun _ a => a ∈ lw_tbl) 1 b s Gz_216 := And.intro uz_1968 uz_0
theorem uGz_217 (b s : Nat) : xall (fun _ a => a ∈ lw_tbl) 2 b s Gz_217 := And.intro (uGz_215 b (2 * s)) (uGz_216 (b + s) (2 * s))
theorem uGz_218 (b s : Nat) : xall (fun _ a => a ∈ lw_tbl) 3 b s Gz_218 := And.intro (uGz_214 b (2 * s)) (uGz_217 (b + s) (2 * s))
theorem uGz_219 (b s : Nat) : xall (fun _ a => a ∈ lw_tbl) 4 b s Gz_219 := And.intro (uGz_211 b (2 * s)) (uGz_218 (b + s) (2 * s))
theorem uGz_220 (b s : Nat) : xall (fun _ a => a ∈ lw_tbl) 5 b s Gz_220 := And.intro (uGz_204 b (2 * s)) (uGz_219 (b + s) (2 * s))
theorem uGz_221 (b s : Nat) : xall (fun _ a => a ∈ lw_tbl) 1 b s Gz_221 := And.intro uz_112 uz_2160
theorem uGz_222 (b s : Nat) : xall (fun _ a => a ∈ lw_tbl) 1 b s Gz_222 := And.intro uz_1136 uz_0
theorem uGz_223 (b s : Nat) : xall (fun _ a => a ∈ lw_tbl) 2 b s Gz_223 := And.intro (uGz_221 b (2 * s)) (uGz_222 (b + s) (2 * s))
theorem uGz_224 (b s : Nat) : xall (fun _ a => a ∈ lw_tbl) 1 b s Gz_224 := And.intro uz_624 uz_0
theorem uGz_225 (b s : Nat) : xall (fun _ a => a ∈ lw_tbl) 1 b s Gz_225 := And.intro uz_1648 uz_0
theorem uGz_226 (b s : Nat) : xall (fun _ a => a ∈ lw_tbl) 2 b s Gz_226 := And.intro (uGz_224 b (2 * s)) (uGz_225 (b + s) (2 * s))
theorem uGz_227 (b s : Nat) : xall (fun _ a => a ∈ lw_tbl) 3 b s Gz_227 := And.intro (uGz_223 b (2 * s)) (uGz_226 (b + s) (2 * s))
theorem uGz_228 (b s : Nat) : xall (fun _ a => a ∈ lw_tbl) 1 b s Gz_228 := And.intro uz_368 uz_0
theorem uGz_229 (b s : Nat) : xall (fun _ a => a ∈ lw_tbl) 1 b s Gz_229 := And.intro uz_1392 uz_0
theorem uGz_230 (b s : Nat) : xall (fun _ a => a ∈ lw_tbl) 2 b s Gz_230 := And.intro (uGz_228 b (2 * s)) (uGz_229 (b + s) (2 * s))
theorem uGz_231 (b s : Nat) : xall (fun _ a => a ∈ lw_tbl) 1 b s Gz_231 := And.intro uz_880 uz_0
theorem uGz_232 (b s : Nat) : xall (fun _ a => a ∈ lw_tbl) 1 b s Gz_232 := And.intro uz_1904 uz_0
theorem uGz_233 (b s : Nat) : xall (fun _ a => a ∈ lw_tbl) 2 b s Gz_233 := And.intro (uGz_231 b (2 * s)) (uGz_232 (b + s) (2 * s))
theorem uGz_234 (b s : Nat) : xall (fun _ a => a ∈ lw_tbl) 3 b s Gz_234 := And.intro (uGz_230 b (2 * s)) (uGz_233 (b + s) (2 * s))
theorem uGz_235 (b s : Nat) : xall (fun _ a => a ∈ lw_tbl) 4 b s Gz_235 := And.intro (uGz_227 b (2 * s)) (uGz_234 (b + s) (2 * s))
theorem uGz_236 (b s : Nat) : xall (fun _ a => a ∈ lw_tbl) 1 b s Gz_236 := And.intro uz_240 uz_0
theorem uGz_237 (b s : Nat) : xall (fun _ a => a ∈ lw_tbl) 1 b s Gz_237 := And.intro uz_1264 uz_0
theorem uGz_238 (b s : Nat) : xall (fun _ a => a ∈ lw_tbl) 2 b s Gz_238 := And.intro (uGz_236 b (2 * s)) (uGz_237 (b + s) (2 * s))
theorem uGz_239 (b s : Nat) : xall (fun _ a => a ∈ lw_tbl) 1 b s Gz_239 := And.intro uz_752 uz_0
theorem uGz_240 (b s : Nat) : xall (fun _ a => a ∈ lw_tbl) 1 b s Gz_240 := And.intro uz_1776 uz_0
theorem uGz_241 (b s : Nat) : xall (fun _ a => a ∈ lw_tbl) 2 b s Gz_241 := And.intro (uGz_239 b (2 * s)) (uGz_240 (b + s) (2 * s))
theorem uGz_242 (b s : Nat) : xall (fun _ a => a ∈ lw_tbl) 3 b s Gz_242 := And.intro (uGz_238 b (2 * s)) (uGz_241 (b + s) (2 * s))
theorem uGz_243 (b s : Nat) : xall (fun _ a => a ∈ lw_tbl) 1 b s Gz_243 := And.intro uz_496 uz_0
theorem uGz_244 (b s : Nat) : xall (fun _ a => a ∈ lw_tbl) 1 b s Gz_244 := And.intro uz_1520 uz_0
theorem uGz_245 (b s : Nat) : xall (fun _ a => a ∈ lw_tbl) 2 b s Gz_245 := And.intro (uGz_243 b (2 * s)) (uGz_244 (b + s) (2 * s))
theorem uGz_246 (b s : Nat) : xall (fun _ a => a ∈ lw_tbl) 1 b s Gz_246 := And.intro uz_1008 uz_0
theorem uGz_247 (b s : Nat) : xall (fun _ a => a ∈ lw_tbl) 1 b s Gz_247 := And.intro uz_2032 uz_0
theorem uGz_248 (b s : Nat) : xall (fun _ a => a ∈ lw_tbl) 2 b s Gz_248 := And.intro (uGz_246 b (2 * s)) (uGz_247 (b + s) (2 * s))
theorem uGz_249 (b s : Nat) : xall (fun _ a => a ∈ lw_tbl) 3 b s Gz_249 := And.intro (uGz_245 b (2 * s)) (uGz_248 (b + s) (2 * s))
theorem uGz_250 (b s : Nat) : xall (fun _ a => a ∈ lw_tbl) 4 b s Gz_250 := And.intro (uGz_242 b (2 * s)) (uGz_249 (b + s) (2 * s))
theorem uGz_251 (b s : Nat) : xall (fun _ a => a ∈ lw_tbl) 5 b s Gz_251 := And.intro (uGz_235 b (2 * s)) (uGz_250 (b + s) (2 * s))
theorem uGz_252 (b s : Nat) : xall (fun _ a => a ∈ lw_tbl) 6 b s Gz_252 := And.intro (uGz_220 b (2 * s)) (uGz_251 (b + s) (2 * s))
theorem uGz_253 (b s : Nat) : xall (fun _ a => a ∈ lw_tbl) 7 b s Gz_253 := And.intro (uGz_189 b (2 * s)) (uGz_252 (b + s) (2 * s))
theorem uGz_254 (b s : Nat) : xall (fun _ a => a ∈ lw_tbl) 8 b s Gz_254 := And.intro (uGz_126 b (2 * s)) (uGz_253 (b + s) (2 * s))
theorem uGz_255 (b s : Nat) : xall (fun _ a => a ∈ lw_tbl) 1 b s Gz_255 := And.intro uz_8 uz_2056
theorem uGz_256 (b s : Nat) : xall (fun _ a => a ∈ lw_tbl) 1 b s Gz_256 := And.intro uz_1032 uz_0
theorem uGz_257 (b s : Nat) : xall (fun _ a => a ∈ lw_tbl) 2 b s Gz_257 := And.intro (uGz_255 b (2 * s)) (uGz_256 (b + s) (2 * s))
theorem uGz_258 (b s : Nat) : xall (fun _ a => a ∈ lw_tbl) 1 b s Gz_258 := And.intro uz_520 uz_0
theorem uGz_259 (b s : Nat) : xall (fun _ a => a ∈ lw_tbl) 1 b s Gz_259 := And.intro uz_1544 uz_0
theorem uGz_260 (b s : Nat) : xall (fun _ a => a ∈ lw_tbl) 2 b s Gz_260 := And.intro (uGz_258 b (2 * s)) (uGz_259 (b + s) (2 * s))
theorem uGz_261 (b s : Nat) : xall (fun _ a => a ∈ lw_tbl) 3 b s Gz_261 := And.intro (uGz_257 b (2 * s)) (uGz_260 (b + s) (2 * s))
theorem uGz_262 (b s : Nat) : xall (fun _ a => a ∈ lw_tbl) 1 b s Gz_262 := And.intro uz_264 uz_0
theorem uGz_263 (b s : Nat) : xall (fun _ a => a ∈ lw_tbl) 1 b s Gz_263 := And.intro uz_1288 uz_0
theorem uGz_264 (b s : Nat) : xall (fun _ a => a ∈ lw_tbl) 2 b s Gz_264 := And.intro (uGz_262 b (2 * s)) (uGz_263 (b + s) (2 * s))
theorem uGz_265 (b s : Nat) : xall (fun _ a => a ∈ lw_tbl) 1 b s Gz_265 := And.intro uz_776 uz_0
theorem uGz_266 (b s : Nat) : xall (fun _ a => a ∈ lw_tbl) 1 b s Gz_266 := And.intro uz_1800 uz_0
theorem uGz_267 (b s : Nat) : xall (fun _ a => a ∈ lw_tbl) 2 b s Gz_267 := And.intro (uGz_265 b (2 * s)) (uGz_266 (b + s) (2 * s))
theorem uGz_268 (b s : Nat) : xall (fun _ a => a ∈ lw_tbl) 3 b s Gz_268 := And.intro (uGz_264 b (2 * s)) (uGz_267 (b + s) (2 * s))
theorem uGz_269 (b s : Nat) : xall (fun _ a => a ∈ lw_tbl) 4 b s Gz_269 := And.intro (uGz_261 b (2 * s)) (uGz_268 (b + s) (2 * s))
theorem uGz_270 (b s : Nat) : xall (fun _ a => a ∈ lw_tbl) 1 b s Gz_270 := And.intro uz_136 uz_2184
theorem uGz_271 (b s : Nat) : xall (fun _ a => a ∈ lw_tbl) 1 b s Gz_271 := And.intro uz_1160 uz_0
theorem uGz_272 (b s : Nat) : xall (fun _ a => a ∈ lw_tbl) 2 b s Gz_272 := And.intro (uGz_270 b (2 * s)) (uGz_271 (b + s) (2 * s))
theorem uGz_273 (b s : Nat) : xall (fun _ a => a ∈ lw_tbl) 1 b s Gz_273 := And.intro uz_648 uz_0
theorem uGz_274 (b s : Nat) : xall (fun _ a => a ∈ lw_tbl) 1 b s Gz_274 := And.intro uz_1672 uz_0
theorem uGz_275 (b s : Nat) : xall (fun _ a => a ∈ lw_tbl) 2 b s Gz_275 := And.intro (uGz_273 b (2 * s)) (uGz_274 (b + s) (2 * s))
theorem uGz_276 (b s : Nat) : xall (fun _ a => a ∈ lw_tbl) 3 b s Gz_276 := And.intro (uGz_272 b (2 * s)) (uGz_275 (b + s) (2 * s))
theorem uGz_277 (b s : Nat) : xall (fun _ a => a ∈ lw_tbl) 1 b s Gz_277 := And.intro uz_392 uz_0
theorem uGz_278 (b s : Nat) : xall (fun _ a => a ∈ lw_tbl) 1 b s Gz_278 := And.intro uz_1416 uz_0
theorem uGz_279 (b s : Nat) : xall (fun _ a => a ∈ lw_tbl) 2 b s Gz_279 := And.intro (uGz_277 b (2 * s)) (uGz_278 (b + s) (2 * s))
theorem uGz_280 (b s : Nat) : xall (fun _ a => a ∈ lw_tbl) 1 b s Gz_280 := And.intro uz_904 uz_0
theorem uGz_281 (b s : Nat) : xall (fun _ a => a ∈ lw_tbl) 1 b s Gz_281 := And.intro uz_1928 uz_0
theorem uGz_282 (b s : Nat) : xall (fun _ a => a ∈ lw_tbl) 2 b s Gz_282 := And.intro (uGz_280 b (2 * s)) (uGz_281 (b + s) (2 * s))
theorem uGz_283 (b s : Nat) : xall (fun _ a => a ∈ lw_tbl) 3 b s Gz_283 := And.intro (uGz_279 b (2 * s)) (uGz_282 (b + s) (2 * s))
theorem uGz_284 (b s : Nat) : xall (fun _ a => a ∈ lw_tbl) 4 b s Gz_284 := And.intro (uGz_276 b (2 * s)) (uGz_283 (b + s) (2 * s))
theorem uGz_285 (b s : Nat) : xall (fun _ a => a ∈ lw_tbl) 5 b s Gz_285 := And.intro (uGz_269 b (2 * s)) (uGz_284 (b + s) (2 * s))
theorem uGz_286 (b s : Nat) : xall (fun _ a => a ∈ lw_tbl) 1 b s Gz_286 := And.intro uz_72 uz_2120
theorem uGz_287 (b s : Nat) : xall (fun _ a => a ∈ lw_tbl) 1 b s Gz_287 := And.intro uz_1096 uz_0
theorem uGz_288 (b s : Nat) : xall (fun _ a => a ∈ lw_tbl) 2 b s Gz_288 := And.intro (uGz_286 b (2 * s)) (uGz_287 (b + s) (2 * s))
theorem uGz_289 (b s : Nat) : xall (fun _ a => a ∈ lw_tbl) 1 b s Gz_289 := And.intro uz_584 uz_0
theorem uGz_290 (b s : Nat) : xall (fun _ a => a ∈ lw_tbl) 1 b s Gz_290 := And.intro uz_1608 uz_0
theorem uGz_291 (b s : Nat) : xall (fun _ a => a ∈ lw_tbl) 2 b s Gz_291 := And.intro (uGz_289 b (2 * s)) (uGz_290 (b + s) (2 * s))
theorem uGz_292 (b s : Nat) : xall (fun _ a => a ∈ lw_tbl) 3 b s Gz_292 := And.intro (uGz_288 b (2 * s)) (uGz_291 (b + s) (2 * s))
theorem uGz_293 (b s : Nat) : xall (fun _ a => a ∈ lw_tbl) 1 b s Gz_293 := And.intro uz_328 uz_0
theorem uGz_294 (b s : Nat) : xall (fun _ a => a ∈ lw_tbl) 1 b s Gz_294 := And.intro uz_1352 uz_0
theorem uGz_295 (b s : Nat) : xall (fun _ a => a ∈ lw_tbl) 2 b s Gz_295 := And.intro (uGz_293 b (2 * s)) (uGz_294 (b + s) (2 * s))
theorem uGz_296 (b s : Nat) : xall (fun _ a => a ∈ lw_tbl) 1 b s Gz_296 := And.intro uz_840 uz_0
theorem uGz_297 (b s : Nat) : xall (fun _ a => a ∈ lw_tbl) 1 b s Gz_297 := And.intro uz_1864 uz_0
theorem uGz_298 (b s : Nat) : xall (fun _ a => a ∈ lw_tbl) 2 b s Gz_298 := And.intro (uGz_296 b (2 * s)) (uGz_297 (b + s) (2 * s))
theorem uGz_299 (b s : Nat) : xall (fun _ a => a ∈ lw_tbl) 3 b s Gz_299 := And.intro (uGz_295 b (2 * s)) (uGz_298 (b + s) (2 * s))
theorem uGz_300 (b s : Nat) : xall (fun _ a => a ∈ lw_tbl) 4 b s Gz_300 := And.intro (uGz_292 b (2 * s)) (uGz_299 (b + s) (2 * s))
theorem uGz_301 (b s : Nat) : xall (fun _ a => a ∈ lw_tbl) 1 b s Gz_301 := And.intro uz_200 uz_2248
theorem uGz_302 (b s : Nat) : xall (fun _ a => a ∈ lw_tbl) 1 b s Gz_302 := And.intro uz_1224 uz_0
theorem uGz_303 (b s : Nat) : xall (fun _ a => a ∈ lw_tbl) 2 b s Gz_303 := And.intro (uGz_301 b (2 * s)) (uGz_302 (b + s) (2 * s))
theorem uGz_304 (b s : Nat) : xall (fun _ a => a ∈ lw_tbl) 1 b s Gz_304 := And.intro uz_712 uz_0
theorem uGz_305 (b s : Nat) : xall (fun _ a => a ∈ lw_tbl) 1 b s Gz_305 := And.intro uz_1736 uz_0
theorem uGz_306 (b s : Nat) : xall (fun _ a => a ∈ lw_tbl) 2 b s Gz_306 := And.intro (uGz_304 b (2 * s)) (uGz_305 (b + s) (2 * s))
theorem uGz_307 (b s : Nat) : xall (fun _ a => a ∈ lw_tbl) 3 b s Gz_307 := And.intro (uGz_303 b (2 * s)) (uGz_306 (b + s) (2 * s))
theorem uGz_308 (b s : Nat) : xall (fun _ a => a ∈ lw_tbl) 1 b s Gz_308 := And.intro uz_456 uz_0
theorem uGz_309 (b s : Nat) : xall (fun _ a => a ∈ lw_tbl) 1 b s Gz_309 := And.intro uz_1480 uz_0
theorem uGz_310 (b s : Nat) : xall (fun _ a => a ∈ lw_tbl) 2 b s Gz_310 := And.intro (uGz_308 b (2 * s)) (uGz_309 (b + s) (2 * s))
theorem uGz_311 (b s : Nat) : xall (fun _ a => a ∈ lw_tbl) 1 b s Gz_311 := And.intro uz_968 uz_0
theorem uGz_312 (b s : Nat) : xall (fun _ a => a ∈ lw_tbl) 1 b s Gz_312 := And.intro uz_1992 uz_0
theorem uGz_313 (b s : Nat) : xall (fun _ a => a ∈ lw_tbl) 2 b s Gz_313 := And.intro (uGz_311 b (2 * s)) (uGz_312 (b + s) (2 * s))
theorem uGz_314 (b s : Nat) : xall (fun _ a => a ∈ lw_tbl) 3 b s Gz_314 := And.intro (uGz_310 b (2 * s)) (uGz_313 (b + s) (2 * s))
theorem uGz_315 (b s : Nat) : xall (fun _ a => a ∈ lw_tbl) 4 b s Gz_315 := And.intro (uGz_307 b (2 * s)) (uGz_314 (b + s) (2 * s))
theorem uGz_316 (b s : Nat) : xall (fun _ a => a ∈ lw_tbl) 5 b s Gz_316 := And.intro (uGz_300 b (2 * s)) (uGz_315 (b + s) (2 * s))
theorem uGz_317 (b s : Nat) : xall (fun _ a => a ∈ lw_tbl) 6 b s Gz_317 := And.intro (uGz_285 b (2 * s)) (uGz_316 (b + s) (2 * s))
theorem uGz_318 (b s : Nat) : xall (fun _ a => a ∈ lw_tbl) 1 b s Gz_318 := And.intro uz_40 uz_2088
theorem uGz_319 (b s : Nat) : xall (fun _ a => a ∈ lw_tbl) 1 b s Gz_319 := And.intro uz_1064 uz_0
theorem uGz_320 (b s : Nat) : xall (fun _ a => a ∈ lw_tbl) 2 b s Gz_320 := And.intro (uGz_318 b (2 * s)) (uGz_319 (b + s) (2 * s))
theorem uGz_321 (b s : Nat) : xall (fun _ a => a ∈ lw_tbl) 1 b s Gz_321 := And.intro uz_552 uz_0
theorem uGz_322 (b s : Nat) : xall (fun _ a => a ∈ lw_tbl) 1 b s Gz_322 := And.intro uz_1576 uz_0
theorem uGz_323 (b s : Nat) : xall (fun _ a => a ∈ lw_tbl) 2 b s Gz_323 := And.intro (uGz_321 b (2 * s)) (uGz_322 (b + s) (2 * s))
theorem uGz_324 (b s : Nat) : xall (fun _ a => a ∈ lw_tbl) 3 b s Gz_324 := And.intro (uGz_320 b (2 * s)) (uGz_323 (b + s) (2 * s))
theorem uGz_325 (b s : Nat) : xall (fun _ a => a ∈ lw_tbl) 1 b s Gz_325 := And.intro uz_296 uz_0
theorem uGz_326 (b s : Nat) : xall (fun _ a => a ∈ lw_tbl) 1 b s Gz_326 := And.intro uz_1320 uz_0
theorem uGz_327 (b s : Nat) : xall (fun _ a => a ∈ lw_tbl) 2 b s Gz_327 := And.intro (uGz_325 b (2 * s)) (uGz_326 (b + s) (2 * s))
theorem uGz_328 (b s : Nat) : xall (fun _ a => a ∈ lw_tbl) 1 b s Gz_328 := And.intro uz_808 uz_0
theorem uGz_329 (b s : Nat) : xall (fun _ a => a ∈ lw_tbl) 1 b s Gz_329 := And.intro uz_1832 uz_0
theorem uGz_330 (b s : Nat) : xall (fun _ a => a ∈ lw_tbl) 2 b s Gz_330 := And.intro (uGz_328 b (2 * s)) (uGz_329 (b + s) (2 * s))
theorem uGz_331 (b s : Nat) : xall (fun _ a => a ∈ lw_tbl) 3 b s Gz_331 := And.intro (uGz_327 b (2 * s)) (uGz_330 (b + s) (2 * s))
theorem uGz_332 (b s : Nat) : xall (fun _ a => a ∈ lw_tbl) 4 b s Gz_332 := And.intro (uGz_324 b (2 * s)) (uGz_331 (b + s) (2 * s))
theorem uGz_333 (b s : Nat) : xall (fun _ a => a ∈ lw_tbl) 1 b s Gz_333 := And.intro uz_168 uz_2216
theorem uGz_334 (b s : Nat) : xall (fun _ a => a ∈ lw_tbl) 1 b s Gz_334 := And.intro uz_1192 uz_0
theorem uGz_335 (b s : Nat) : xall (fun _ a => a ∈ lw_tbl) 2 b s Gz_335 := And.intro (uGz_333 b (2 * s)) (uGz_334 (b + s) (2 * s))
theorem uGz_336 (b s : Nat) : xall (fun _ a => a ∈ lw_tbl) 1 b s Gz_336 := And.intro uz_680 uz_0
theorem uGz_337 (b s : Nat) : xall (fun _ a => a ∈ lw_tbl) 1 b s Gz_337 := And.intro uz_1704 uz_0
theorem uGz_338 (b s : Nat) : xall (fun _ a => a ∈ lw_tbl) 2 b s Gz_338 := And.intro (uGz_336 b (2 * s)) (uGz_337 (b + s) (2 * s))
theorem uGz_339 (b s : Nat) : xall (fun _ a => a ∈ lw_tbl) 3 b s Gz_339 := And.intro (uGz_335 b (2 * s)) (uGz_338 (b + s) (2 * s))
theorem uGz_340 (b s : Nat) : xall (fun _ a => a ∈ lw_tbl) 1 b s Gz_340 := And.intro uz_424 uz_0
theorem uGz_341 (b s : Nat) : xall (fun _ a => a ∈ lw_tbl) 1 b s Gz_341 := And.intro uz_1448 uz_0
theorem uGz_342 (b s : Nat) : xall (fun _ a => a ∈ lw_tbl) 2 b s Gz_342 := And.intro (uGz_340 b (2 * s)) (uGz_341 (b + s) (2 * s))
theorem uGz_343 (b s : Nat) : xall (fun _ a => a ∈ lw_tbl) 1 b s Gz_343 := And.intro uz_936 uz_0
theorem uGz_344 (b s : Nat) : xall (fun _ a => a ∈ lw_tbl) 1 b s Gz_344 := And.intro uz_1960 uz_0
theorem uGz_345 (b s : Nat) : xall (fun _ a => a ∈ lw_tbl) 2 b s Gz_345 := And.intro (uGz_343 b (2 * s)) (uGz_344 (b + s) (2 * s))
theorem uGz_346 (b s : Nat) : xall (fun _ a => a ∈ lw_tbl) 3 b s Gz_346 := And.intro (uGz_342 b (2 * s)) (uGz_345 (b + s) (2 * s))
theorem uGz_347 (b s : Nat) : xall (fun _ a => a ∈ lw_tbl) 4 b s Gz_347 := And.intro (uGz_339 b (2 * s)) (uGz_346 (b + s) (2 * s))
theorem uGz_348 (b s : Nat) : xall (fun _ a => a ∈ lw_tbl) 5 b s Gz_348 := And.intro (uGz_332 b (2 * s)) (uGz_347 (b + s) (2 * s))
theorem uGz_349 (b s : Nat) : xall (fun _ a => a ∈ lw_tbl) 1 b s Gz_349 := And.intro uz_104 uz_2152
theorem uGz_350 (b s : Nat) : xall (fun _ a => a ∈ lw_tbl) 1 b s Gz_350 := And.intro uz_1128 uz_0
theorem uGz_351 (b s : Nat) : xall (fun _ a => a ∈ lw_tbl) 2 b s Gz_351 := And.intro (uGz_349 b (2 * s)) (uGz_350 (b + s) (2 * s))
theorem uGz_352 (b s : Nat) : xall (fun _ a => a ∈ lw_tbl) 1 b s Gz_352 := And.intro uz_616 uz_0
theorem uGz_353 (b s : Nat) : xall (fun _ a => a ∈ lw_tbl) 1 b s Gz_353 := And.intro uz_1640 uz_0
theorem uGz_354 (b s : Nat) : xall (fun _ a => a ∈ lw_tbl) 2 b s Gz_354 := And.intro (uGz_352 b (2 * s)) (uGz_353 (b + s) (2 * s))
theorem uGz_355 (b s : Nat) : xall (fun _ a => a ∈ lw_tbl) 3 b s Gz_355 := And.intro (uGz_351 b (2 * s)) (uGz_354 (b + s) (2 * s))
theorem uGz_356 (b s : Nat) : xall (fun _ a => a ∈ lw_tbl) 1 b s Gz_356 := And.intro uz_360 uz_0
theorem uGz_357 (b s : Nat) : xall (fun _ a => a ∈ lw_tbl) 1 b s Gz_357 := And.intro uz_1384 uz_0
theorem uGz_358 (b s : Nat) : xall (fun _ a => a ∈ lw_tbl) 2 b s Gz_358 := And.intro (uGz_356 b (2 * s)) (uGz_357 (b + s) (2 * s))
theorem uGz_359 (b s : Nat) : xall (fun _ a => a ∈ lw_tbl) 1 b s Gz_359 := And.intro uz_872 uz_0
theorem uGz_360 (b s : Nat) : xall (fun _ a => a ∈ lw_tbl) 1 b s Gz_360 := And.intro uz_1896 uz_0
theorem uGz_361 (b s : Nat) : xall (fun _ a => a ∈ lw_tbl) 2 b s Gz_361 := And.intro (uGz_359 b (2 * s)) (uGz_360 (b + s) (2 * s))
theorem uGz_362 (b s : Nat) : xall (fun _ a => a ∈ lw_tbl) 3 b s Gz_362 := And.intro (uGz_358 b (2 * s)) (uGz_361 (b + s) (2 * s))
theorem uGz_363 (b s : Nat) : xall (fun _ a => a ∈ lw_tbl) 4 b s Gz_363 := And.intro (uGz_355 b (2 * s)) (uGz_362 (b + s) (2 * s))
theorem uGz_364 (b s : Nat) : xall (fun _ a => a ∈ lw_tbl) 1 b s Gz_364 := And.intro uz_232 uz_0
theorem uGz_365 (b s : Nat) : xall (fun _ a => a ∈ lw_tbl) 1 b s Gz_365 := And.intro uz_1256 uz_0
theorem uGz_366 (b s : Nat) : xall (fun _ a => a ∈ lw_tbl) 2 b s Gz_366 := And.intro (uGz_364 b (2 * s)) (uGz_365 (b + s) (2 * s))
theorem uGz_367 (b s : Nat) : xall (fun _ a => a ∈ lw_tbl) 1 b s Gz_367 := And.intro uz_744 uz_0
theorem uGz_368 (b s : Nat) : xall (fun _ a => a ∈ lw_tbl) 1 b s Gz_368 := And.intro uz_1768 uz_0
theorem uGz_369 (b s : Nat) : xall (fun _ a => a ∈ lw_tbl) 2 b s Gz_369 := And.intro (uGz_367 b (2 * s)) (uGz_368 (b + s) (2 * s))
theorem uGz_370 (b s : Nat) : xall (fun _ a => a ∈ lw_tbl) 3 b s Gz_370 := And.intro (uGz_366 b (2 * s)) (uGz_369 (b + s) (2 * s))
theorem uGz_371 (b s : Nat) : xall (fun _ a => a ∈ lw_tbl) 1 b s Gz_371 := And.intro uz_488 uz_0
theorem uGz_372 (b s : Nat) : xall (fun _ a => a ∈ lw_tbl) 1 b s Gz_372 := And.intro uz_1512 uz_0
theorem uGz_373 (b s : Nat) : xall (fun _ a => a ∈ lw_tbl) 2 b s Gz_373 := And.intro (uGz_371 b (2 * s)) (uGz_372 (b + s) (2 * s))
theorem uGz_374 (b s : Nat) : xall (fun _ a => a ∈ lw_tbl) 1 b s Gz_374 := And.intro uz_1000 uz_0
theorem uGz_375 (b s : Nat) : xall (fun _ a => a ∈ lw_tbl) 1 b s Gz_375 := And.intro uz_2024 uz_0
theorem uGz_376 (b s : Nat) : xall (fun _ a => a ∈ lw_tbl) 2 b s Gz_376 := And.intro (uGz_374 b (2 * s)) (uGz_375 (b + s) (2 * s))
theorem uGz_377 (b s : Nat) : xall (fun _ a => a ∈ lw_tbl) 3 b s Gz_377 := And.intro (uGz_373 b (2 * s)) (uGz_376 (b + s) (2 * s))
theorem uGz_378 (b s : Nat) : xall (fun _ a => a ∈ lw_tbl) 4 b s Gz_378 := And.intro (uGz_370 b (2 * s)) (uGz_377 (b + s) (2 * s))
theorem uGz_379 (b s : Nat) : xall (fun _ a => a ∈ lw_tbl) 5 b s Gz_379 := And.intro (uGz_363 b (2 * s)) (uGz_378 (b + s) (2 * s))
theorem uGz_380 (b s : Nat) : xall (fun _ a => a ∈ lw_tbl) 6 b s Gz_380 := And.intro (uGz_348 b (2 * s)) (uGz_379 (b + s) (2 * s))
theorem uGz_381 (b s : Nat) : xall (fun _ a => a ∈ lw_tbl) 7 b s Gz_381 := And.intro (uGz_317 b (2 * s)) (uGz_380 (b + s) (2 * s))
theorem uGz_382 (b s : Nat) : xall (fun _ a => a ∈ lw_tbl) 1 b s Gz_382 := And.intro uz_24 uz_2072
theorem uGz_383 (b s : Nat) : xall (fun _ a => a ∈ lw_tbl) 1 b s Gz_383 := And.intro uz_1048 uz_0
theorem uGz_384 (b s : Nat) : xall (fun _ a => a ∈ lw_tbl) 2 b s Gz_384 := And.intro (uGz_382 b (2 * s)) (uGz_383 (b + s) (2 * s))
theorem uGz_385 (b s : Nat) : xall (fun _ a => a ∈ lw_tbl) 1 b s Gz_385 := And.intro uz_536 uz_0
theorem uGz_386 (b s : Nat) : xall (fun _ a => a ∈ lw_tbl) 1 b s Gz_386 := And.intro uz_1560 uz_0
theorem uGz_387 (b s : Nat) : xall (fun _ a => a ∈ lw_tbl) 2 b s Gz_387 := And.intro (uGz_385 b (2 * s)) (uGz_386 (b + s) (2 * s))
theorem uGz_388 (b s : Nat) : xall (fun _ a => a ∈ lw_tbl) 3 b s Gz_388 := And.intro (uGz_384 b (2 * s)) (uGz_387 (b + s) (2 * s))
theorem uGz_389 (b s : Nat) : xall (fun _ a => a ∈ lw_tbl) 1 b s Gz_389 := And.intro uz_280 uz_0
theorem uGz_390 (b s : Nat) : xall (fun _ a => a ∈ lw_tbl) 1 b s Gz_390 := And.intro uz_1304 uz_0
theorem uGz_391 (b s : Nat) : xall (fun _ a => a ∈ lw_tbl) 2 b s Gz_391 := And.intro (uGz_389 b (2 * s)) (uGz_390 (b + s) (2 * s))
theorem uGz_392 (b s : Nat) : xall (fun _ a => a ∈ lw_tbl) 1 b s Gz_392 := And.intro uz_792 uz_0
theorem uGz_393 (b s : Nat) : xall (fun _ a => a ∈ lw_tbl) 1 b s Gz_393 := And.intro uz_1816 uz_0
theorem uGz_394 (b s : Nat) : xall (fun _ a => a ∈ lw_tbl) 2 b s Gz_394 := And.intro (uGz_392 b (2 * s)) (uGz_393 (b + s) (2 * s))
theorem uGz_395 (b s : Nat) : xall (fun _ a => a ∈ lw_tbl) 3 b s Gz_395 := And.intro (uGz_391 b (2 * s)) (uGz_394 (b + s) (2 * s))
theorem uGz_396 (b s : Nat) : xall (fun _ a => a ∈ lw_tbl) 4 b s Gz_396 := And.intro (uGz_388 b (2 * s)) (uGz_395 (b + s) (2 * s))
theorem uGz_397 (b s : Nat) : xall (fun _ a => a ∈ lw_tbl) 1 b s Gz_397 := And.intro uz_152 uz_2200
theorem uGz_398 (b s : Nat) : xall (fun _ a => a ∈ lw_tbl) 1 b s Gz_398 := And.intro uz_1176 uz_0
theorem uGz_399 (b s : Nat) : xall (fun _ a => a ∈ lw_tbl) 2 b s Gz_399 := And.intro (uGz_397 b (2 * s)) (uGz_398 (b + s) (2 * s))
theorem uGz_400 (b s : Nat) : xall (fun _ a => a ∈ lw_tbl) 1 b s Gz_400 := And.intro uz_664 uz_0
theorem uGz_401 (b s : Nat) : xall (fun _ a => a ∈ lw_tbl) 1 b s Gz_401 := And.intro uz_1688 uz_0
theorem uGz_402 (b s : Nat) : xall (fun _ a => a ∈ lw_tbl) 2 b s Gz_402 := And.intro (uGz_400 b (2 * s)) (uGz_401 (b + s) (2 * s))
theorem uGz_403 (b s : Nat) : xall (fun _ a => a ∈ lw_tbl) 3 b s Gz_403 := And.intro (uGz_399 b (2 * s)) (uGz_402 (b + s) (2 * s))
theorem uGz_404 (b s : Nat) : xall (fun _ a => a ∈ lw_tbl) 1 b s Gz_404 := And.intro uz_408 uz_0
theorem uGz_405 (b s : Nat) : xall (fun _ a => a ∈ lw_tbl) 1 b s Gz_405 := And.intro uz_1432 uz_0
theorem uGz_406 (b s : Nat) : xall (fun _ a => a ∈ lw_tbl) 2 b s Gz_406 := And.intro (uGz_404 b (2 * s)) (uGz_405 (b + s) (2 * s))
theorem uGz_407 (b s : Nat) : xall (fun _ a => a ∈ lw_tbl) 1 b s Gz_407 := And.intro uz_920 uz_0
theorem uGz_408 (b s : Nat) : xall (fun _ a => a ∈ lw_tbl) 1 b s Gz_408 := And.intro uz_1944 uz_0
theorem uGz_409 (b s : Nat) : xall (fun _ a => a ∈ lw_tbl) 2 b s Gz_409 := And.intro (uGz_407 b (2 * s)) (uGz_408 (b + s) (2 * s))
theorem uGz_410 (b s : Nat) : xall (fun _ a => a ∈ lw_tbl) 3 b s Gz_410 := And.intro (uGz_406 b (2 * s)) (uGz_409 (b + s) (2 * s))
theorem uGz_411 (b s : Nat) : xall (fun _ a => a ∈ lw_tbl) 4 b s Gz_411 := And.intro (uGz_403 b (2 * s)) (uGz_410 (b + s) (2 * s))
theorem uGz_412 (b s : Nat) : xall (fun _ a => a ∈ lw_tbl) 5 b s Gz_412 := And.intro (uGz_396 b (2 * s)) (uGz_411 (b + s) (2 * s))
theorem uGz_413 (b s : Nat) : xall (fun _ a => a ∈ lw_tbl) 1 b s Gz_413 := And.intro uz_88 uz_2136
theorem uGz_414 (b s : Nat) : xall (fun _ a => a ∈ lw_tbl) 1 b s Gz_414 := And.intro uz_1112 uz_0
theorem uGz_415 (b s : Nat) : xall (fun _ a => a ∈ lw_tbl) 2 b s Gz_415 := And.intro (uGz_413 b (2 * s)) (uGz_414 (b + s) (2 * s))
theorem uGz_416 (b s : Nat) : xall (fun _ a => a ∈ lw_tbl) 1 b s Gz_416 := And.intro uz_600 uz_0
theorem uGz_417 (b s : Nat) : xall (fun _ a => a ∈ lw_tbl) 1 b s Gz_417 := And.intro uz_1624 uz_0
theorem uGz_418 (b s : Nat) : xall (fun _ a => a ∈ lw_tbl) 2 b s Gz_418 := And.intro (uGz_416 b (2 * s)) (uGz_417 (b + s) (2 * s))
theorem uGz_419 (b s : Nat) : xall (fun _ a => a ∈ lw_tbl) 3 b s Gz_419 := And.intro (uGz_415 b (2 * s)) (uGz_418 (b + s) (2 * s))
theorem uGz_420 (b s : Nat) : xall (fun _ a => a ∈ lw_tbl) 1 b s Gz_420 := And.intro uz_344 uz_0
theorem uGz_421 (b s : Nat) : xall (fun _ a => a ∈ lw_tbl) 1 b s Gz_421 := And.intro uz_1368 uz_0
theorem uGz_422 (b s : Nat) : xall (fun _ a => a ∈ lw_tbl) 2 b s Gz_422 := And.intro (uGz_420 b (2 * s)) (uGz_421 (b + s) (2 * s))
theorem uGz_423 (b s : Nat) : xall (fun _ a => a ∈ lw_tbl) 1 b s Gz_423 := And.intro uz_856 uz_0
theorem uGz_424 (b s : Nat) : xall (fun _ a => a ∈ lw_tbl) 1 b s Gz_424 := And.intro uz_1880 uz_0
theorem uGz_425 (b s : Nat) : xall (fun _ a => a ∈ lw_tbl) 2 b s Gz_425 := And.intro (uGz_423 b (2 * s)) (uGz_424 (b + s) (2 * s))
theorem uGz_426 (b s : Nat) : xall (fun _ a => a ∈ lw_tbl) 3 b s Gz_426 := And.intro (uGz_422 b (2 * s)) (uGz_425 (b + s) (2 * s))
theorem uGz_427 (b s : Nat) : xall (fun _ a => a ∈ lw_tbl) 4 b s Gz_427 := And.intro (uGz_419 b (2 * s)) (uGz_426 (b + s) (2 * s))
theorem uGz_428 (b s : Nat) : xall (fun _ a => a ∈ lw_tbl) 1 b s Gz_428 := And.intro uz_216 uz_0
theorem uGz_429 (b s : Nat) : xall (fun _ a => a ∈ lw_tbl) 1 b s Gz_429 := And.intro uz_1240 uz_0
theorem uGz_430 (b s : Nat) : xall (fun _ a => a ∈ lw_tbl) 2 b s Gz_430 := And.intro (uGz_428 b (2 * s)) (uGz_429 (b + s) (2 * s))
theorem uGz_431 (b s : Nat) : xall (fun _ a => a ∈ lw_tbl) 1 b s Gz_431 := And.intro uz_728 uz_0
theorem uGz_432 (b s : Nat) : xall (fun _ a => a ∈ lw_tbl) 1 b s Gz_432 := And.intro uz_1752 uz_0
theorem uGz_433 (b s : Nat) : xall (fun _ a => a ∈ lw_tbl) 2 b s Gz_433 := And.intro (uGz_431 b (2 * s)) (uGz_432 (b + s) (2 * s))
theorem uGz_434 (b s : Nat) : xall (fun _ a => a ∈ lw_tbl) 3 b s Gz_434 := And.intro (uGz_430 b (2 * s)) (uGz_433 (b + s) (2 * s))
theorem uGz_435 (b s : Nat) : xall (fun _ a => a ∈ lw_tbl) 1 b s Gz_435 := And.intro uz_472 uz_0
theorem uGz_436 (b s : Nat) : xall (fun _ a => a ∈ lw_tbl) 1 b s Gz_436 := And.intro uz_1496 uz_0
theorem uGz_437 (b s : Nat) : xall (fun _ a => a ∈ lw_tbl) 2 b s Gz_437 := And.intro (uGz_435 b (2 * s)) (uGz_436 (b + s) (2 * s))
theorem uGz_438 (b s : Nat) : xall (fun _ a => a ∈ lw_tbl) 1 b s Gz_438 := And.intro uz_984 uz_0
theorem uGz_439 (b s : Nat) : xall (fun _ a => a ∈ lw_tbl) 1 b s Gz_439 := And.intro uz_2008 uz_0
theorem uGz_440 (b s : Nat) : xall (fun _ a => a ∈ lw_tbl) 2 b s Gz_440 := And.intro (uGz_438 b (2 * s)) (uGz_439 (b + s) (2 * s))
theorem uGz_441 (b s : Nat) : xall (fun _ a => a ∈ lw_tbl) 3 b s Gz_441 := And.intro (uGz_437 b (2 * s)) (uGz_440 (b + s) (2 * s))
theorem uGz_442 (b s : Nat) : xall (fun _ a => a ∈ lw_tbl) 4 b s Gz_442 := And.intro (uGz_434 b (2 * s)) (uGz_441 (b + s) (2 * s))
theorem uGz_443 (b s : Nat) : xall (fun _ a => a ∈ lw_tbl) 5 b s Gz_443 := And.intro (uGz_427 b (2 * s)) (uGz_442 (b + s) (2 * s))
theorem uGz_444 (b s : Nat) : xall (fun _ a => a ∈ lw_tbl) 6 b s Gz_444 := And.intro (uGz_412 b (2 * s)) (uGz_443 (b + s) (2 * s))
theorem uGz_445 (b s : Nat) : xall (fun _ a => a ∈ lw_tbl) 1 b s Gz_445 := And.intro uz_56 uz_2104
theorem uGz_446 (b s : Nat) : xall (fun _ a => a ∈ lw_tbl) 1 b s Gz_446 := And.intro uz_1080 uz_0
theorem uGz_447 (b s : Nat) : xall (fun _ a => a ∈ lw_tbl) 2 b s Gz_447 := And.intro (uGz_445 b (2 * s)) (uGz_446 (b + s) (2 * s))
theorem uGz_448 (b s : Nat) : xall (fun _ a => a ∈ lw_tbl) 1 b s Gz_448 := And.intro uz_568 uz_0
theorem uGz_449 (b s : Nat) : xall (fun _ a => a ∈ lw_tbl) 1 b s Gz_449 := And.intro uz_1592 uz_0
theorem uGz_450 (b s : Nat) : xall (fun _ a => a ∈ lw_tbl) 2 b s Gz_450 := And.intro (uGz_448 b (2 * s)) (uGz_449 (b + s) (2 * s))
theorem uGz_451 (b s : Nat) : xall (fun _ a => a ∈ lw_tbl) 3 b s Gz_451 := And.intro (uGz_447 b (2 * s)) (uGz_450 (b + s) (2 * s))
theorem uGz_452 (b s : Nat) : xall (fun _ a => a ∈ lw_tbl) 1 b s Gz_452 := And.intro uz_312 uz_0
theorem uGz_453 (b s : Nat) : xall (fun _ a => a ∈ lw_tbl) 1 b s Gz_453 := And.intro uz_1336 uz_0
theorem uGz_454 (b s : Nat) : xall (fun _ a => a ∈ lw_tbl) 2 b s Gz_454 := And.intro (uGz_452 b (2 * s)) (uGz_453 (b + s) (2 * s))
theorem uGz_455 (b s : Nat) : xall (fun _ a => a ∈ lw_tbl) 1 b s Gz_455 := And.intro uz_824 uz_0
theorem uGz_456 (b s : Nat) : xall (fun _ a => a ∈ lw_tbl) 1 b s Gz_456 := And.intro uz_1848 uz_0
theorem uGz_457 (b s : Nat) : xall (fun _ a => a ∈ lw_tbl) 2 b s Gz_457 := And.intro (uGz_455 b (2 * s)) (uGz_456 (b + s) (2 * s))
theorem uGz_458 (b s : Nat) : xall (fun _ a => a ∈ lw_tbl) 3 b s Gz_458 := And.intro (uGz_454 b (2 * s)) (uGz_457 (b + s) (2 * s))
theorem uGz_459 (b s : Nat) : xall (fun _ a => a ∈ lw_tbl) 4 b s Gz_459 := And.intro (uGz_451 b (2 * s)) (uGz_458 (b + s) (2 * s))
theorem uGz_460 (b s : Nat) : xall (fun _ a => a ∈ lw_tbl) 1 b s Gz_460 := And.intro uz_184 uz_2232
theorem uGz_461 (b s : Nat) : xall (fun _ a => a ∈ lw_tbl) 1 b s Gz_461 := And.intro uz_1208 uz_0
theorem uGz_462 (b s : Nat) : xall (fun _ a => a ∈ lw_tbl) 2 b s Gz_462 := And.intro (uGz_460 b (2 * s)) (uGz_461 (b + s) (2 * s))
theorem uGz_463 (b s : Nat) : xall (fun _ a => a ∈ lw_tbl) 1 b s Gz_463 := And.intro uz_696 uz_0
theorem uGz_464 (b s : Nat) : xall (fun _ a => a ∈ lw_tbl) 1 b s Gz_464 := And.intro uz_1720 uz_0
theorem uGz_465 (b s : Nat) : xall (fun _ a => a ∈ lw_tbl) 2 b s Gz_465 := And.intro (uGz_463 b (2 * s)) (uGz_464 (b + s) (2 * s))
theorem uGz_466 (b s : Nat) : xall (fun _ a => a ∈ lw_tbl) 3 b s Gz_466 := And.intro (uGz_462 b (2 * s)) (uGz_465 (b + s) (2 * s))
theorem uGz_467 (b s : Nat) : xall (fun _ a => a ∈ lw_tbl) 1 b s Gz_467 := And.intro uz_440 uz_0
theorem uGz_468 (b s : Nat) : xall (fun _ a => a ∈ lw_tbl) 1 b s Gz_468 := And.intro uz_1464 uz_0
theorem uGz_469 (b s : Nat) : xall (fun _ a => a ∈ lw_tbl) 2 b s Gz_469 := And.intro (uGz_467 b (2 * s)) (uGz_468 (b + s) (2 * s))
theorem uGz_470 (b s : Nat) : xall (fun _ a => a ∈ lw_tbl) 1 b s Gz_470 := And.intro uz_952 uz_0
theorem uGz_471 (b s : Nat) : xall (fun _ a => a ∈ lw_tbl) 1 b s Gz_471 := And.intro uz_1976 uz_0
theorem uGz_472 (b s : Nat) : xall (fun _ a => a ∈ lw_tbl) 2 b s Gz_472 := And.intro (uGz_470 b (2 * s)) (uGz_471 (b + s) (2 * s))
theorem uGz_473 (b s : Nat) : xall (fun _ a => a ∈ lw_tbl) 3 b s Gz_473 := And.intro (uGz_469 b (2 * s)) (uGz_472 (b + s) (2 * s))
theorem uGz_474 (b s : Nat) : xall (fun _ a => a ∈ lw_tbl) 4 b s Gz_474 := And.intro (uGz_466 b (2 * s)) (uGz_473 (b + s) (2 * s))
theorem uGz_475 (b s : Nat) : xall (fun _ a => a ∈ lw_tbl) 5 b s Gz_475 := And.intro (uGz_459 b (2 * s)) (uGz_474 (b + s) (2 * s))
theorem uGz_476 (b s : Nat) : xall (fun _ a => a ∈ lw_tbl) 1 b s Gz_476 := And.intro uz_120 uz_2168
theorem uGz_477 (b s : Nat) : xall (fun _ a => a ∈ lw_tbl) 1 b s Gz_477 := And.intro uz_1144 uz_0
theorem uGz_478 (b s : Nat) : xall (fun _ a => a ∈ lw_tbl) 2 b s Gz_478 := And.intro (uGz_476 b (2 * s)) (uGz_477 (b + s) (2 * s))
theorem uGz_479 (b s : Nat) : xall (fun _ a => a ∈ lw_tbl) 1 b s Gz_479 := And.intro uz_632 uz_0
theorem uGz_480 (b s : Nat) : xall (fun _ a => a ∈ lw_tbl) 1 b s Gz_480 := And.intro uz_1656 uz_0
theorem uGz_481 (b s : Nat) : xall (fun _ a => a ∈ lw_tbl) 2 b s Gz_481 := And.intro (uGz_479 b (2 * s)) (uGz_480 (b + s) (2 * s))
theorem uGz_482 (b s : Nat) : xall (fun _ a => a ∈ lw_tbl) 3 b s Gz_482 := And.intro (uGz_478 b (2 * s)) (uGz_481 (b + s) (2 * s))
theorem uGz_483 (b s : Nat) : xall (fun _ a => a ∈ lw_tbl) 1 b s Gz_483 := And.intro uz_376 uz_0
theorem uGz_484 (b s : Nat) : xall (fun _ a => a ∈ lw_tbl) 1 b s Gz_484 := And.intro uz_1400 uz_0
theorem uGz_485 (b s : Nat) : xall (fun _ a => a ∈ lw_tbl) 2 b s Gz_485 := And.intro (uGz_483 b (2 * s)) (uGz_484 (b + s) (2 * s))
theorem uGz_486 (b s : Nat) : xall (fun _ a => a ∈ lw_tbl) 1 b s Gz_486 := And.intro uz_888 uz_0
theorem uGz_487 (b s : Nat) : xall (fun _ a => a ∈ lw_tbl) 1 b s Gz_487 := And.intro uz_1912 uz_0
theorem uGz_488 (b s : Nat) : xall (fun _ a => a ∈ lw_tbl) 2 b s Gz_488 := And.intro (uGz_486 b (2 * s)) (uGz_487 (b + s) (2 * s))
theorem uGz_489 (b s : Nat) : xall (fun _ a => a ∈ lw_tbl) 3 b s Gz_489 := And.intro (uGz_485 b (2 * s)) (uGz_488 (b + s) (2 * s))
theorem uGz_490 (b s : Nat) : xall (fun _ a => a ∈ lw_tbl) 4 b s Gz_490 := And.intro (uGz_482 b (2 * s)) (uGz_489 (b + s) (2 * s))
theorem uGz_491 (b s : Nat) : xall (fun _ a => a ∈ lw_tbl) 1 b s Gz_491 := And.intro uz_248 uz_0
theorem uGz_492 (b s : Nat) : xall (fun _ a => a ∈ lw_tbl) 1 b s Gz_492 := And.intro uz_1272 uz_0
theorem uGz_493 (b s : Nat) : xall (fun _ a => a ∈ lw_tbl) 2 b s Gz_493 := And.intro (uGz_491 b (2 * s)) (uGz_492 (b + s) (2 * s))
theorem uGz_494 (b s : Nat) : xall (fun _ a => a ∈ lw_tbl) 1 b s Gz_494 := And.intro uz_760 uz_0
theorem uGz_495 (b s : Nat) : xall (fun _ a => a ∈ lw_tbl) 1 b s Gz_495 := And.intro uz_1784 uz_0
theorem uGz_496 (b s : Nat) : xall (fun _ a => a ∈ lw_tbl) 2 b s Gz_496 := And.intro (uGz_494 b (2 * s)) (uGz_495 (b + s) (2 * s))
theorem uGz_497 (b s : Nat) : xall (fun _ a => a ∈ lw_tbl) 3 b s Gz_497 := And.intro (uGz_493 b (2 * s)) (uGz_496 (b + s) (2 * s))
theorem uGz_498 (b s : Nat) : xall (fun _ a => a ∈ lw_tbl) 1 b s Gz_498 := And.intro uz_504 uz_0
theorem uGz_499 (b s : Nat) : xall (fun _ a => a ∈ lw_tbl) 1 b s Gz_499 := And.intro uz_1528 uz_0
theorem uGz_500 (b s : Nat) : xall (fun _ a => a ∈ lw_tbl) 2 b s Gz_500 := And.intro (uGz_498 b (2 * s)) (uGz_499 (b + s) (2 * s))
theorem uGz_501 (b s : Nat) : xall (fun _ a => a ∈ lw_tbl) 1 b s Gz_501 := And.intro uz_1016 uz_0
theorem uGz_502 (b s : Nat) : xall (fun _ a => a ∈ lw_tbl) 1 b s Gz_502 := And.intro uz_2040 uz_0
theorem uGz_503 (b s : Nat) : xall (fun _ a => a ∈ lw_tbl) 2 b s Gz_503 := And.intro (uGz_501 b (2 * s)) (uGz_502 (b + s) (2 * s))
theorem uGz_504 (b s : Nat) : xall (fun _ a => a ∈ lw_tbl) 3 b s Gz_504 := And.intro (uGz_500 b (2 * s)) (uGz_503 (b + s) (2 * s))
theorem uGz_505 (b s : Nat) : xall (fun _ a => a ∈ lw_tbl) 4 b s Gz_505 := And.intro (uGz_497 b (2 * s)) (uGz_504 (b + s) (2 * s))
theorem uGz_506 (b s : Nat) : xall (fun _ a => a ∈ lw_tbl) 5 b s Gz_506 := And.intro (uGz_490 b (2 * s)) (uGz_505 (b + s) (2 * s))
theorem uGz_507 (b s : Nat) : xall (fun _ a => a ∈ lw_tbl) 6 b s Gz_507 := And.intro (uGz_475 b (2 * s)) (uGz_506 (b + s) (2 * s))
theorem uGz_508 (b s : Nat) : xall (fun _ a => a ∈ lw_tbl) 7 b s Gz_508 := And.intro (uGz_444 b (2 * s)) (uGz_507 (b + s) (2 * s))
theorem uGz_509 (b s : Nat) : xall (fun _ a => a ∈ lw_tbl) 8 b s Gz_509 := And.intro (uGz_381 b (2 * s)) (uGz_508 (b + s) (2 * s))
theorem uGz_510 (b s : Nat) : xall (fun _ a => a ∈ lw_tbl) 9 b s Gz_510 := And.intro (uGz_254 b (2 * s)) (uGz_509 (b + s) (2 * s))
theorem uGz_511 (b s : Nat) : xall (fun _ a => a ∈ lw_tbl) 1 b s Gz_511 := And.intro uz_4 uz_2052
theorem uGz_512 (b s : Nat) : xall (fun _ a => a ∈ lw_tbl) 1 b s Gz_512 := And.intro uz_1028 uz_0
theorem uGz_513 (b s : Nat) : xall (fun _ a => a ∈ lw_tbl) 2 b s Gz_513 := And.intro (uGz_511 b (2 * s)) (uGz_512 (b + s) (2 * s))
theorem uGz_514 (b s : Nat) : xall (fun _ a => a ∈ lw_tbl) 1 b s Gz_514 := And.intro uz_516 uz_0
theorem uGz_515 (b s : Nat) : xall (fun _ a => a ∈ lw_tbl) 1 b s Gz_515 := And.intro uz_1540 uz_0
theorem uGz_516 (b s : Nat) : xall (fun _ a => a ∈ lw_tbl) 2 b s Gz_516 := And.intro (uGz_514 b (2 * s)) (uGz_515 (b + s) (2 * s))
theorem uGz_517 (b s : Nat) : xall (fun _ a => a ∈ lw_tbl) 3 b s Gz_517 := And.intro (uGz_513 b (2 * s)) (uGz_516 (b + s) (2 * s))
theorem uGz_518 (b s : Nat) : xall (fun _ a => a ∈ lw_tbl) 1 b s Gz_518 := And.intro uz_260 uz_0
theorem uGz_519 (b s : Nat) : xall (fun _ a => a ∈ lw_tbl) 1 b s Gz_519 := And.intro uz_1284 uz_0
theorem uGz_520 (b s : Nat) : xall (fun _ a => a ∈ lw_tbl) 2 b s Gz_520 := And.intro (uGz_518 b (2 * s)) (uGz_519 (b + s) (2 * s))
theorem uGz_521 (b s : Nat) : xall (fun _ a => a ∈ lw_tbl) 1 b s Gz_521 := And.intro uz_772 uz_0
theorem uGz_522 (b s : Nat) : xall (fun _ a => a ∈ lw_tbl) 1 b s Gz_522 := And.intro uz_1796 uz_0
theorem uGz_523 (b s : Nat) : xall (fun _ a => a ∈ lw_tbl) 2 b s Gz_523 := And.intro (uGz_521 b (2 * s)) (uGz_522 (b + s) (2 * s))
theorem uGz_524 (b s : Nat) : xall (fun _ a => a ∈ lw_tbl) 3 b s Gz_524 := And.intro (uGz_520 b (2 * s)) (uGz_523 (b + s) (2 * s))
theorem uGz_525 (b s : Nat) : xall (fun _ a => a ∈ lw_tbl) 4 b s Gz_525 := And.intro (uGz_517 b (2 * s)) (uGz_524 (b + s) (2 * s))
theorem uGz_526 (b s : Nat) : xall (fun _ a => a ∈ lw_tbl) 1 b s Gz_526 := And.intro uz_132 uz_2180
theorem uGz_527 (b s : Nat) : xall (fun _ a => a ∈ lw_tbl) 1 b s Gz_527 := And.intro uz_1156 uz_0
theorem uGz_528 (b s : Nat) : xall (fun _ a => a ∈ lw_tbl) 2 b s Gz_528 := And.intro (uGz_526 b (2 * s)) (uGz_527 (b + s) (2 * s))
theorem uGz_529 (b s : Nat) : xall (fun _ a => a ∈ lw_tbl) 1 b s Gz_529 := And.intro uz_644 uz_0
theorem uGz_530 (b s : Nat) : xall (fun _ a => a ∈ lw_tbl) 1 b s Gz_530 := And.intro uz_1668 uz_0
theorem uGz_531 (b s : Nat) : xall (fun _ a => a ∈ lw_tbl) 2 b s Gz_531 := And.intro (uGz_529 b (2 * s)) (uGz_530 (b + s) (2 * s))
theorem uGz_532 (b s : Nat) : xall (fun _ a => a ∈ lw_tbl) 3 b s Gz_532 := And.intro (uGz_528 b (2 * s)) (uGz_531 (b + s) (2 * s))
theorem uGz_533 (b s : Nat) : xall (fun _ a => a ∈ lw_tbl) 1 b s Gz_533 := And.intro uz_388 uz_0
theorem uGz_534 (b s : Nat) : xall (fun _ a => a ∈ lw_tbl) 1 b s Gz_534 := And.intro uz_1412 uz_0
theorem uGz_535 (b s : Nat) : xall (fun _ a => a ∈ lw_tbl) 2 b s Gz_535 := And.intro (uGz_533 b (2 * s)) (uGz_534 (b + s) (2 * s))
theorem uGz_536 (b s : Nat) : xall (fun _ a => a ∈ lw_tbl) 1 b s Gz_536 := And.intro uz_900 uz_0
theorem uGz_537 (b s : Nat) : xall (fun _ a => a ∈ lw_tbl) 1 b s Gz_537 := And.intro uz_1924 uz_0
theorem uGz_538 (b s : Nat) : xall (fun _ a => a ∈ lw_tbl) 2 b s Gz_538 := And.intro (uGz_536 b (2 * s)) (uGz_537 (b + s) (2 * s))
theorem uGz_539 (b s : Nat) : xall (fun _ a => a ∈ lw_tbl) 3 b s Gz_539 := And.intro (uGz_535 b (2 * s)) (uGz_538 (b + s) (2 * s))
theorem uGz_540 (b s : Nat) : xall (fun _ a => a ∈ lw_tbl) 4 b s Gz_540 := And.intro (uGz_532 b (2 * s)) (uGz_539 (b + s) (2 * s))
theorem uGz_541 (b s : Nat) : xall (fun _ a => a ∈ lw_tbl) 5 b s Gz_541 := And.intro (uGz_525 b (2 * s)) (uGz_540 (b + s) (2 * s))
theorem uGz_542 (b s : Nat) : xall (fun _ a => a ∈ lw_tbl) 1 b s Gz_542 := And.intro uz_68 uz_2116
theorem uGz_543 (b s : Nat) : xall (fun _ a => a ∈ lw_tbl) 1 b s Gz_543 := And.intro uz_1092 uz_0
theorem uGz_544 (b s : Nat) : xall (fun _ a => a ∈ lw_tbl) 2 b s Gz_544 := And.intro (uGz_542 b (2 * s)) (uGz_543 (b + s) (2 * s))
theorem uGz_545 (b s : Nat) : xall (fun _ a => a ∈ lw_tbl) 1 b s Gz_545 := And.intro uz_580 uz_0
theorem uGz_546 (b s : Nat) : xall (fun _ a => a ∈ lw_tbl) 1 b s Gz_546 := And.intro uz_1604 uz_0
theorem uGz_547 (b s : Nat) : xall (fun _ a => a ∈ lw_tbl) 2 b s Gz_547 := And.intro (uGz_545 b (2 * s)) (uGz_546 (b + s) (2 * s))
theorem uGz_548 (b s : Nat) : xall (fun _ a => a ∈ lw_tbl) 3 b s Gz_548 := And.intro (uGz_544 b (2 * s)) (uGz_547 (b + s) (2 * s))
theorem uGz_549 (b s : Nat) : xall (fun _ a => a ∈ lw_tbl) 1 b s Gz_549 := And.intro uz_324 uz_0
theorem uGz_550 (b s : Nat) : xall (fun _ a => a ∈ lw_tbl) 1 b s Gz_550 := And.intro uz_1348 uz_0
theorem uGz_551 (b s : Nat) : xall (fun _ a => a ∈ lw_tbl) 2 b s Gz_551 := And.intro (uGz_549 b (2 * s)) (uGz_550 (b + s) (2 * s))
theorem uGz_552 (b s : Nat) : xall (fun _ a => a ∈ lw_tbl) 1 b s Gz_552 := And.intro uz_836 uz_0
theorem uGz_553 (b s : Nat) : xall (fun _ a => a ∈ lw_tbl) 1 b s Gz_553 := And.intro uz_1860 uz_0
theorem uGz_554 (b s : Nat) : xall (fun _ a => a ∈ lw_tbl) 2 b s Gz_554 := And.intro (uGz_552 b (2 * s)) (uGz_553 (b + s) (2 * s))
theorem uGz_555 (b s : Nat) : xall (fun _ a => a ∈ lw_tbl) 3 b s Gz_555 := And.intro (uGz_551 b (2 * s)) (uGz_554 (b + s) (2 * s))
theorem uGz_556 (b s : Nat) : xall (fun _ a => a ∈ lw_tbl) 4 b s Gz_556 := And.intro (uGz_548 b (2 * s)) (uGz_555 (b + s) (2 * s))
theorem uGz_557 (b s : Nat) : xall (fun _ a => a ∈ lw_tbl) 1 b s Gz_557 := And.intro uz_196 uz_2244
theorem uGz_558 (b s : Nat) : xall (fun _ a => a ∈ lw_tbl) 1 b s Gz_558 := And.intro uz_1220 uz_0
theorem uGz_559 (b s : Nat) : xall (fun _ a => a ∈ lw_tbl) 2 b s Gz_559 := And.intro (uGz_557 b (2 * s)) (uGz_558 (b + s) (2 * s))
theorem uGz_560 (b s : Nat) : xall (fun _ a => a ∈ lw_tbl) 1 b s Gz_560 := And.intro uz_708 uz_0
theorem uGz_561 (b s : Nat) : xall (fun _ a => a ∈ lw_tbl) 1 b s Gz_561 := And.intro uz_1732 uz_0
theorem uGz_562 (b s : Nat) : xall (fun _ a => a ∈ lw_tbl) 2 b s Gz_562 := And.intro (uGz_560 b (2 * s)) (uGz_561 (b + s) (2 * s))
theorem uGz_563 (b s : Nat) : xall (fun _ a => a ∈ lw_tbl) 3 b s Gz_563 := And.intro (uGz_559 b (2 * s)) (uGz_562 (b + s) (2 * s))
theorem uGz_564 (b s : Nat) : xall (fun _ a => a ∈ lw_tbl) 1 b s Gz_564 := And.intro uz_452 uz_0
theorem uGz_565 (b s : Nat) : xall (fun _ a => a ∈ lw_tbl) 1 b s Gz_565 := And.intro uz_1476 uz_0
theorem uGz_566 (b s : Nat) : xall (fun _ a => a ∈ lw_tbl) 2 b s Gz_566 := And.intro (uGz_564 b (2 * s)) (uGz_565 (b + s) (2 * s))
theorem uGz_567 (b s : Nat) : xall (fun _ a => a ∈ lw_tbl) 1 b s Gz_567 := And.intro uz_964 uz_0
theorem uGz_568 (b s : Nat) : xall (fun _ a => a ∈ lw_tbl) 1 b s Gz_568 := And.intro uz_1988 uz_0
theorem uGz_569 (b s : Nat) : xall (fun _ a => a ∈ lw_tbl) 2 b s Gz_569 := And.intro (uGz_567 b (2 * s)) (uGz_568 (b + s) (2 * s))
theorem uGz_570 (b s : Nat) : xall (fun _ a => a ∈ lw_tbl) 3 b s Gz_570 := And.intro (uGz_566 b (2 * s)) (uGz_569 (b + s) (2 * s))
theorem uGz_571 (b s : Nat) : xall (fun _ a => a ∈ lw_tbl) 4 b s Gz_571 := And.intro (uGz_563 b (2 * s)) (uGz_570 (b + s) (2 * s))
theorem uGz_572 (b s : Nat) : xall (fun _ a => a ∈ lw_tbl) 5 b s Gz_572 := And.intro (uGz_556 b (2 * s)) (uGz_571 (b + s) (2 * s))
theorem uGz_573 (b s : Nat) : xall (fun _ a => a ∈ lw_tbl) 6 b s Gz_573 := And.intro (uGz_541 b (2 * s)) (uGz_572 (b + s) (2 * s))
theorem uGz_574 (b s : Nat) : xall (fun _ a => a ∈ lw_tbl) 1 b s Gz_574 := And.intro uz_36 uz_2084
theorem uGz_575 (b s : Nat) : xall (fun _ a => a ∈ lw_tbl) 1 b s Gz_575 := And.intro uz_1060 uz_0
theorem uGz_576 (b s : Nat) : xall (fun _ a => a ∈ lw_tbl) 2 b s Gz_576 := And.intro (uGz_574 b (2 * s)) (uGz_575 (b + s) (2 * s))
theorem uGz_577 (b s : Nat) : xall (fun _ a => a ∈ lw_tbl) 1 b s Gz_577 := And.intro uz_548 uz_0
theorem uGz_578 (b s : Nat) : xall (fun _ a => a ∈ lw_tbl) 1 b s Gz_578 := And.intro uz_1572 uz_0
theorem uGz_579 (b s : Nat) : xall (fun _ a => a ∈ lw_tbl) 2 b s Gz_579 := And.intro (uGz_577 b (2 * s)) (uGz_578 (b + s) (2 * s))
theorem uGz_580 (b s : Nat) : xall (fun _ a => a ∈ lw_tbl) 3 b s Gz_580 := And.intro (uGz_576 b (2 * s)) (uGz_579 (b + s) (2 * s))
theorem uGz_581 (b s : Nat) : xall (fun _ a => a ∈ lw_tbl) 1 b s Gz_581 := And.intro uz_292 uz_0
theorem uGz_582 (b s : Nat) : xall (fun _ a => a ∈ lw_tbl) 1 b s Gz_582 := And.intro uz_1316 uz_0
theorem uGz_583 (b s : Nat) : xall (fun _ a => a ∈ lw_tbl) 2 b s Gz_583 := And.intro (uGz_581 b (2 * s)) (uGz_582 (b + s) (2 * s))
theorem uGz_584 (b s : Nat) : xall (fun _ a => a ∈ lw_tbl) 1 b s Gz_584 := And.intro uz_804 uz_0
theorem uGz_585 (b s : Nat) : xall (fun _ a => a ∈ lw_tbl) 1 b s Gz_585 := And.intro uz_1828 uz_0
theorem uGz_586 (b s : Nat) : xall (fun _ a => a ∈ lw_tbl) 2 b s Gz_586 := And.intro (uGz_584 b (2 * s)) (uGz_585 (b + s) (2 * s))
theorem uGz_587 (b s : Nat) : xall (fun _ a => a ∈ lw_tbl) 3 b s Gz_587 := And.intro (uGz_583 b (2 * s)) (uGz_586 (b + s) (2 * s))
theorem uGz_588 (b s : Nat) : xall (fun _ a => a ∈ lw_tbl) 4 b s Gz_588 := And.intro (uGz_580 b (2 * s)) (uGz_587 (b + s) (2 * s))
theorem uGz_589 (b s : Nat) : xall (fun _ a => a ∈ lw_tbl) 1 b s Gz_589 := And.intro uz_164 uz_2212
theorem uGz_590 (b s : Nat) : xall (fun _ a => a ∈ lw_tbl) 1 b s Gz_590 := And.intro uz_1188 uz_0
theorem uGz_591 (b s : Nat) : xall (fun _ a => a ∈ lw_tbl) 2 b s Gz_591 := And.intro (uGz_589 b (2 * s)) (uGz_590 (b + s) (2 * s))
theorem uGz_592 (b s : Nat) : xall (fun _ a => a ∈ lw_tbl) 1 b s Gz_592 := And.intro uz_676 uz_0
theorem uGz_593 (b s : Nat) : xall (fun _ a => a ∈ lw_tbl) 1 b s Gz_593 := And.intro uz_1700 uz_0
theorem uGz_594 (b s : Nat) : xall (fun _ a => a ∈ lw_tbl) 2 b s Gz_594 := And.intro (uGz_592 b (2 * s)) (uGz_593 (b + s) (2 * s))
theorem uGz_595 (b s : Nat) : xall (fun _ a => a ∈ lw_tbl) 3 b s Gz_595 := And.intro (uGz_591 b (2 * s)) (uGz_594 (b + s) (2 * s))
theorem uGz_596 (b s : Nat) : xall (fun _ a => a ∈ lw_tbl) 1 b s Gz_596 := And.intro uz_420 uz_0
theorem uGz_597 (b s : Nat) : xall (fun _ a => a ∈ lw_tbl) 1 b s Gz_597 := And.intro uz_1444 uz_0
theorem uGz_598 (b s : Nat) : xall (fun _ a => a ∈ lw_tbl) 2 b s Gz_598 := And.intro (uGz_596 b (2 * s)) (uGz_597 (b + s) (2 * s))
theorem uGz_599 (b s : Nat) : xall (fun _ a => a ∈ lw_tbl) 1 b s Gz_599 := And.intro uz_932 uz_0
theorem uGz_600 (b s : Nat) : xall (fun _ a => a ∈ lw_tbl) 1 b s Gz_600 := And.intro uz_1956 uz_0
theorem uGz_601 (b s : Nat) : xall (fun _ a => a ∈ lw_tbl) 2 b s Gz_601 := And.intro (uGz_599 b (2 * s)) (uGz_600 (b + s) (2 * s))
theorem uGz_602 (b s : Nat) : xall (fun _ a => a ∈ lw_tbl) 3 b s Gz_602 := And.intro (uGz_598 b (2 * s)) (uGz_601 (b + s) (2 * s))
theorem uGz_603 (b s : Nat) : xall (fun _ a => a ∈ lw_tbl) 4 b s Gz_603 := And.intro (uGz_595 b (2 * s)) (uGz_602 (b + s) (2 * s))
theorem uGz_604 (b s : Nat) : xall (fun _ a => a ∈ lw_tbl) 5 b s Gz_604 := And.intro (uGz_588 b (2 * s)) (uGz_603 (b + s) (2 * s))
theorem uGz_605 (b s : Nat) : xall (fun _ a => a ∈ lw_tbl) 1 b s Gz_605 := And.intro uz_100 uz_2148
theorem uGz_606 (b s : Nat) : xall (fun _ a => a ∈ lw_tbl) 1 b s Gz_606 := And.intro uz_1124 uz_0
theorem uGz_607 (b s : Nat) : xall (fun _ a => a ∈ lw_tbl) 2 b s Gz_607 := And.intro (uGz_605 b (2 * s)) (uGz_606 (b + s) (2 * s))
theorem uGz_608 (b s : Nat) : xall (fun _ a => a ∈ lw_tbl) 1 b s Gz_608 := And.intro uz_612 uz_0
theorem uGz_609 (b s : Nat) : xall (fun _ a => a ∈ lw_tbl) 1 b s Gz_609 := And.intro uz_1636 uz_0
theorem uGz_610 (b s : Nat) : xall (fun _ a => a ∈ lw_tbl) 2 b s Gz_610 := And.intro (uGz_608 b (2 * s)) (uGz_609 (b + s) (2 * s))
theorem uGz_611 (b s : Nat) : xall (fun _ a => a ∈ lw_tbl) 3 b s Gz_611 := And.intro (uGz_607 b (2 * s)) (uGz_610 (b + s) (2 * s))
theorem uGz_612 (b s : Nat) : xall (fun _ a => a ∈ lw_tbl) 1 b s Gz_612 := And.intro uz_356 uz_0
theorem uGz_613 (b s : Nat) : xall (fun _ a => a ∈ lw_tbl) 1 b s Gz_613 := And.intro uz_1380 uz_0
theorem uGz_614 (b s : Nat) : xall (fun _ a => a ∈ lw_tbl) 2 b s Gz_614 := And.intro (uGz_612 b (2 * s)) (uGz_613 (b + s) (2 * s))
theorem uGz_615 (b s : Nat) : xall (fun _ a => a ∈ lw_tbl) 1 b s Gz_615 := And.intro uz_868 uz_0
theorem uGz_616 (b s : Nat) : xall (fun _ a => a ∈ lw_tbl) 1 b s Gz_616 := And.intro uz_1892 uz_0
theorem uGz_617 (b s : Nat) : xall (fun _ a => a ∈ lw_tbl) 2 b s Gz_617 := And.intro (uGz_615 b (2 * s)) (uGz_616 (b + s) (2 * s))
theorem uGz_618 (b s : Nat) : xall (fun _ a => a ∈ lw_tbl) 3 b s Gz_618 := And.intro (uGz_614 b (2 * s)) (uGz_617 (b + s) (2 * s))
theorem uGz_619 (b s : Nat) : xall (fun _ a => a ∈ lw_tbl) 4 b s Gz_619 := And.intro (uGz_611 b (2 * s)) (uGz_618 (b + s) (2 * s))
theorem uGz_620 (b s : Nat) : xall (fun _ a => a ∈ lw_tbl) 1 b s Gz_620 := And.intro uz_228 uz_0
theorem uGz_621 (b s : Nat) : xall (fun _ a => a ∈ lw_tbl) 1 b s Gz_621 := And.intro uz_1252 uz_0
theorem uGz_622 (b s : Nat) : xall (fun _ a => a ∈ lw_tbl) 2 b s Gz_622 := And.intro (uGz_620 b (2 * s)) (uGz_621 (b + s) (2 * s))
theorem uGz_623 (b s : Nat) : xall (fun _ a => a ∈ lw_tbl) 1 b s Gz_623 := And.intro uz_740 uz_0
theorem uGz_624 (b s : Nat) : xall (fun _ a => a ∈ lw_tbl) 1 b s Gz_624 := And.intro uz_1764 uz_0
theorem uGz_625 (b s : Nat) : xall (fun _ a => a ∈ lw_tbl) 2 b s Gz_625 := And.intro (uGz_623 b (2 * s)) (uGz_624 (b + s) (2 * s))
theorem uGz_626 (b s : Nat) : xall (fun _ a => a ∈ lw_tbl) 3 b s Gz_626 := And.intro (uGz_622 b (2 * s)) (uGz_625 (b + s) (2 * s))
theorem uGz_627 (b s : Nat) : xall (fun _ a => a ∈ lw_tbl) 1 b s Gz_627 := And.intro uz_484 uz_0
theorem uGz_628 (b s : Nat) : xall (fun _ a => a ∈ lw_tbl) 1 b s Gz_628 := And.intro uz_1508 uz_0
theorem uGz_629 (b s : Nat) : xall (fun _ a => a ∈ lw_tbl) 2 b s Gz_629 := And.intro (uGz_627 b (2 * s)) (uGz_628 (b + s) (2 * s))
theorem uGz_630 (b s : Nat) : xall (fun _ a => a ∈ lw_tbl) 1 b s Gz_630 := And.intro uz_996 uz_0
theorem uGz_631 (b s : Nat) : xall (fun _ a => a ∈ lw_tbl) 1 b s Gz_631 := And.intro uz_2020 uz_0
theorem uGz_632 (b s : Nat) : xall (fun _ a => a ∈ lw_tbl) 2 b s Gz_632 := And.intro (uGz_630 b (2 * s)) (uGz_631 (b + s) (2 * s))
theorem uGz_633 (b s : Nat) : xall (fun _ a => a ∈ lw_tbl) 3 b s Gz_633 := And.intro (uGz_629 b (2 * s)) (uGz_632 (b + s) (2 * s))
theorem uGz_634 (b s : Nat) : xall (fun _ a => a ∈ lw_tbl) 4 b s Gz_634 := And.intro (uGz_626 b (2 * s)) (uGz_633 (b + s) (2 * s))
theorem uGz_635 (b s : Nat) : xall (fun _ a => a ∈ lw_tbl) 5 b s Gz_635 := And.intro (uGz_619 b (2 * s)) (uGz_634 (b + s) (2 * s))
theorem uGz_636 (b s : Nat) : xall (fun _ a => a ∈ lw_tbl) 6 b s Gz_636 := And.intro (uGz_604 b (2 * s)) (uGz_635 (b + s) (2 * s))
theorem uGz_637 (b s : Nat) : xall (fun _ a => a ∈ lw_tbl) 7 b s Gz_637 := And.intro (uGz_573 b (2 * s)) (uGz_636 (b + s) (2 * s))
theorem uGz_638 (b s : Nat) : xall (fun _ a => a ∈ lw_tbl) 1 b s Gz_638 := And.intro uz_20 uz_2068
theorem uGz_639 (b s : Nat) : xall (fun _ a => a ∈ lw_tbl) 1 b s Gz_639 := And.intro uz_1044 uz_0
theorem uGz_640 (b s : Nat) : xall (fun _ a => a ∈ lw_tbl) 2 b s Gz_640 := And.intro (uGz_638 b (2 * s)) (uGz_639 (b + s) (2 * s))
theorem uGz_641 (b s : Nat) : xall (fun _ a => a ∈ lw_tbl) 1 b s Gz_641 := And.intro uz_532 uz_0
theorem uGz_642 (b s : Nat) : xall (fun _ a => a ∈ lw_tbl) 1 b s Gz_642 := And.intro uz_1556 uz_0
theorem uGz_643 (b s : Nat) : xall (fun _ a => a ∈ lw_tbl) 2 b s Gz_643 := And.intro (uGz_641 b (2 * s)) (uGz_642 (b + s) (2 * s))
theorem uGz_644 (b s : Nat) : xall (fun _ a => a ∈ lw_tbl) 3 b s Gz_644 := And.intro (uGz_640 b (2 * s)) (uGz_643 (b + s) (2 * s))
theorem uGz_645 (b s : Nat) : xall (fun _ a => a ∈ lw_tbl) 1 b s Gz_645 := And.intro uz_276 uz_0
theorem uGz_646 (b s : Nat) : xall (fun _ a => a ∈ lw_tbl) 1 b s Gz_646 := And.intro uz_1300 uz_0
theorem uGz_647 (b s : Nat) : xall (fun _ a => a ∈ lw_tbl) 2 b s Gz_647 := And.intro (uGz_645 b (2 * s)) (uGz_646 (b + s) (2 * s))
theorem uGz_648 (b s : Nat) : xall (fun _ a => a ∈ lw_tbl) 1 b s Gz_648 := And.intro uz_788 uz_0
theorem uGz_649 (b s : Nat) : xall (fun _ a => a ∈ lw_tbl) 1 b s Gz_649 := And.intro uz_1812 uz_0
theorem uGz_650 (b s : Nat) : xall (fun _ a => a ∈ lw_tbl) 2 b s Gz_650 := And.intro (uGz_648 b (2 * s)) (uGz_649 (b + s) (2 * s))
theorem uGz_651 (b s : Nat) : xall (fun _ a => a ∈ lw_tbl) 3 b s Gz_651 := And.intro (uGz_647 b (2 * s)) (uGz_650 (b + s) (2 * s))
theorem uGz_652 (b s : Nat) : xall (fun _ a => a ∈ lw_tbl) 4 b s Gz_652 := And.intro (uGz_644 b (2 * s)) (uGz_651 (b + s) (2 * s))
theorem uGz_653 (b s : Nat) : xall (fun _ a => a ∈ lw_tbl) 1 b s Gz_653 := And.intro uz_148 uz_2196
theorem uGz_654 (b s : Nat) : xall (fun _ a => a ∈ lw_tbl) 1 b s Gz_654 := And.intro uz_1172 uz_0
theorem uGz_655 (b s : Nat) : xall (fun _ a => a ∈ lw_tbl) 2 b s Gz_655 := And.intro (uGz_653 b (2 * s)) (uGz_654 (b + s) (2 * s))
theorem uGz_656 (b s : Nat) : xall (fun _ a => a ∈ lw_tbl) 1 b s Gz_656 := And.intro uz_660 uz_0
theorem uGz_657 (b s : Nat) : xall (fun _ a => a ∈ lw_tbl) 1 b s Gz_657 := And.intro uz_1684 uz_0
theorem uGz_658 (b s : Nat) : xall (fun _ a => a ∈ lw_tbl) 2 b s Gz_658 := And.intro (uGz_656 b (2 * s)) (uGz_657 (b + s) (2 * s))
theorem uGz_659 (b s : Nat) : xall (fun _ a => a ∈ lw_tbl) 3 b s Gz_659 := And.intro (uGz_655 b (2 * s)) (uGz_658 (b + s) (2 * s))
theorem uGz_660 (b s : Nat) : xall (fun _ a => a ∈ lw_tbl) 1 b s Gz_660 := And.intro uz_404 uz_0
theorem uGz_661 (b s : Nat) : xall (fun _ a => a ∈ lw_tbl) 1 b s Gz_661 := And.intro uz_1428 uz_0
theorem uGz_662 (b s : Nat) : xall (fun _ a => a ∈ lw_tbl) 2 b s Gz_662 := And.intro (uGz_660 b (2 * s)) (uGz_661 (b + s) (2 * s))
theorem uGz_663 (b s : Nat) : xall (fun _ a => a ∈ lw_tbl) 1 b s Gz_663 := And.intro uz_916 uz_0
theorem uGz_664 (b s : Nat) : xall (fun _ a => a ∈ lw_tbl) 1 b s Gz_664 := And.intro uz_1940 uz_0
theorem uGz_665 (b s : Nat) : xall (fun _ a => a ∈ lw_tbl) 2 b s Gz_665 := And.intro (uGz_663 b (2 * s)) (uGz_664 (b + s) (2 * s))
theorem uGz_666 (b s : Nat) : xall (fun _ a => a ∈ lw_tbl) 3 b s Gz_666 := And.intro (uGz_662 b (2 * s)) (uGz_665 (b + s) (2 * s))
theorem uGz_667 (b s : Nat) : xall (fun _ a => a ∈ lw_tbl) 4 b s Gz_667 := And.intro (uGz_659 b (2 * s)) (uGz_666 (b + s) (2 * s))
theorem uGz_668 (b s : Nat) : xall (fun _ a => a ∈ lw_tbl) 5 b s Gz_668 := And.intro (uGz_652 b (2 * s)) (uGz_667 (b + s) (2 * s))
theorem uGz_669 (b s : Nat) : xall (fun _ a => a ∈ lw_tbl) 1 b s Gz_669 := And.intro uz_84 uz_2132
theorem uGz_670 (b s : Nat) : xall (fun _ a => a ∈ lw_tbl) 1 b s Gz_670 := And.intro uz_1108 uz_0
theorem uGz_671 (b s : Nat) : xall (fun _ a => a ∈ lw_tbl) 2 b s Gz_671 := And.intro (uGz_669 b (2 * s)) (uGz_670 (b + s) (2 * s))
theorem uGz_672 (b s : Nat) : xall (fun _ a => a ∈ lw_tbl) 1 b s Gz_672 := And.intro uz_596 uz_0
theorem uGz_673 (b s : Nat) : xall (fun _ a => a ∈ lw_tbl) 1 b s Gz_673 := And.intro uz_1620 uz_0
theorem uGz_674 (b s : Nat) : xall (fun _ a => a ∈ lw_tbl) 2 b s Gz_674 := And.intro (uGz_672 b (2 * s)) (uGz_673 (b + s) (2 * s))
theorem uGz_675 (b s : Nat) : xall (fun _ a => a ∈ lw_tbl) 3 b s Gz_675 := And.intro (uGz_671 b (2 * s)) (uGz_674 (b + s) (2 * s))
theorem uGz_676 (b s : Nat) : xall (fun _ a => a ∈ lw_tbl) 1 b s Gz_676 := And.intro uz_340 uz_0
theorem uGz_677 (b s : Nat) : xall (fun _ a => a ∈ lw_tbl) 1 b s Gz_677 := And.intro uz_1364 uz_0
theorem uGz_678 (b s : Nat) : xall (fun _ a => a ∈ lw_tbl) 2 b s Gz_678 := And.intro (uGz_676 b (2 * s)) (uGz_677 (b + s) (2 * s))
theorem uGz_679 (b s : Nat) : xall (fun _ a => a ∈ lw_tbl) 1 b s Gz_679 := And.intro uz_852 uz_0
theorem uGz_680 (b s : Nat) : xall (fun _ a => a ∈ lw_tbl) 1 b s Gz_680 := And.intro uz_1876 uz_0
theorem uGz_681 (b s : Nat) : xall (fun _ a => a ∈ lw_tbl) 2 b s Gz_681 := And.intro (uGz_679 b (2 * s)) (uGz_680 (b + s) (2 * s))
theorem uGz_682 (b s : Nat) : xall (fun _ a => a ∈ lw_tbl) 3 b s Gz_682 := And.intro (uGz_678 b (2 * s)) (uGz_681 (b + s) (2 * s))
theorem uGz_683 (b s : Nat) : xall (fun _ a => a ∈ lw_tbl) 4 b s Gz_683 := And.intro (uGz_675 b (2 * s)) (uGz_682 (b + s) (2 * s))
theorem uGz_684 (b s : Nat) : xall (fun _ a => a ∈ lw_tbl) 1 b s Gz_684 := And.intro uz_212 uz_2260
theorem uGz_685 (b s : Nat) : xall (fun _ a => a ∈ lw_tbl) 1 b s Gz_685 := And.intro uz_1236 uz_0
theorem uGz_686 (b s : Nat) : xall (fun _ a => a ∈ lw_tbl) 2 b s Gz_686 := And.intro (uGz_684 b (2 * s)) (uGz_685 (b + s) (2 * s))
theorem uGz_687 (b s : Nat) : xall (fun _ a => a ∈ lw_tbl) 1 b s Gz_687 := And.intro uz_724 uz_0
theorem uGz_688 (b s : Nat) : xall (fun _ a => a ∈ lw_tbl) 1 b s Gz_688 := And.intro uz_1748 uz_0
theorem uGz_689 (b s : Nat) : xall (fun _ a => a ∈ lw_tbl) 2 b s Gz_689 := And.intro (uGz_687 b (2 * s)) (uGz_688 (b + s) (2 * s))
theorem uGz_690 (b s : Nat) : xall (fun _ a => a ∈ lw_tbl) 3 b s Gz_690 := And.intro (uGz_686 b (2 * s)) (uGz_689 (b + s) (2 * s))
theorem uGz_691 (b s : Nat) : xall (fun _ a => a ∈ lw_tbl) 1 b s Gz_691 := And.intro uz_468 uz_0
theorem uGz_692 (b s : Nat) : xall (fun _ a => a ∈ lw_tbl) 1 b s Gz_692 := And.intro uz_1492 uz_0
theorem uGz_693 (b s : Nat) : xall (fun _ a => a ∈ lw_tbl) 2 b s Gz_693 := And.intro (uGz_691 b (2 * s)) (uGz_692 (b + s) (2 * s))
theorem uGz_694 (b s : Nat) : xall (fun _ a => a ∈ lw_tbl) 1 b s Gz_694 := And.intro uz_980 uz_0
theorem uGz_695 (b s : Nat) : xall (fun _ a => a ∈ lw_tbl) 1 b s Gz_695 := And.intro uz_2004 uz_0
theorem uGz_696 (b s : Nat) : xall (fun _ a => a ∈ lw_tbl) 2 b s Gz_696 := And.intro (uGz_694 b (2 * s)) (uGz_695 (b + s) (2 * s))
theorem uGz_697 (b s : Nat) : xall (fun _ a => a ∈ lw_tbl) 3 b s Gz_697 := And.intro (uGz_693 b (2 * s)) (uGz_696 (b + s) (2 * s))
theorem uGz_698 (b s : Nat) : xall (fun _ a => a ∈ lw_tbl) 4 b s Gz_698 := And.intro (uGz_690 b (2 * s)) (uGz_697 (b + s) (2 * s))
theorem uGz_699 (b s : Nat) : xall (fun _ a => a ∈ lw_tbl) 5 b s Gz_699 := And.intro (uGz_683 b (2 * s)) (uGz_698 (b + s) (2 * s))
theorem uGz_700 (b s : Nat) : xall (fun _ a => a ∈ lw_tbl) 6 b s Gz_700 := And.intro (uGz_668 b (2 * s)) (uGz_699 (b + s) (2 * s))
theorem uGz_701 (b s : Nat) : xall (fun _ a => a ∈ lw_tbl) 1 b s Gz_701 := And.intro uz_52 uz_2100
theorem uGz_702 (b s : Nat) : xall (fun _ a => a ∈ lw_tbl) 1 b s Gz_702 := And.intro uz_1076 uz_0
theorem uGz_703 (b s : Nat) : xall (fun _ a => a ∈ lw_tbl) 2 b s Gz_703 := And.intro (uGz_701 b (2 * s)) (uGz_702 (b + s) (2 * s))
theorem uGz_704 (b s : Nat) : xall (fun _ a => a ∈ lw_tbl) 1 b s Gz_704 := And.intro uz_564 uz_0
theorem uGz_705 (b s : Nat) : xall (fun _ a => a ∈ lw_tbl) 1 b s Gz_705 := And.intro uz_1588 uz_0
theorem uGz_706 (b s : Nat) : xall (fun _ a => a ∈ lw_tbl) 2 b s Gz_706 := And.intro (uGz_704 b (2 * s)) (uGz_705 (b + s) (2 * s))
theorem uGz_707 (b s : Nat) : xall (fun _ a => a ∈ lw_tbl) 3 b s Gz_707 := And.intro (uGz_703 b (2 * s)) (uGz_706 (b + s) (2 * s))
theorem uGz_708 (b s : Nat) : xall (fun _ a => a ∈ lw_tbl) 1 b s Gz_708 := And.intro uz_308 uz_0
theorem uGz_709 (b s : Nat) : xall (fun _ a => a ∈ lw_tbl) 1 b s Gz_709 := And.intro uz_1332 uz_0
theorem uGz_710 (b s : Nat) : xall (fun _ a => a ∈ lw_tbl) 2 b s Gz_710 := And.intro (uGz_708 b (2 * s)) (uGz_709 (b + s) (2 * s))
theorem uGz_711 (b s : Nat) : xall (fun _ a => a ∈ lw_tbl) 1 b s Gz_711 := And.intro uz_820 uz_0
theorem uGz_712 (b s : Nat) : xall (fun _ a => a ∈ lw_tbl) 1 b s Gz_712 := And.intro uz_1844 uz_0
theorem uGz_713 (b s : Nat) : xall (fun _ a => a ∈ lw_tbl) 2 b s Gz_713 := And.intro (uGz_711 b (2 * s)) (uGz_712 (b + s) (2 * s))
theorem uGz_714 (b s : Nat) : xall (fun _ a => a ∈ lw_tbl) 3 b s Gz_714 := And.intro (uGz_710 b (2 * s)) (uGz_713 (b + s) (2 * s))
theorem uGz_715 (b s : Nat) : xall (fun _ a => a ∈ lw_tbl) 4 b s Gz_715 := And.intro (uGz_707 b (2 * s)) (uGz_714 (b + s) (2 * s))
theorem uGz_716 (b s : Nat) : xall (fun _ a => a ∈ lw_tbl) 1 b s Gz_716 := And.intro uz_180 uz_2228
theorem uGz_717 (b s : Nat) : xall (fun _ a => a ∈ lw_tbl) 1 b s Gz_717 := And.intro uz_1204 uz_0
theorem uGz_718 (b s : Nat) : xall (fun _ a => a ∈ lw_tbl) 2 b s Gz_718 := And.intro (uGz_716 b (2 * s)) (uGz_717 (b + s) (2 * s))
theorem uGz_719 (b s : Nat) : xall (fun _ a => a ∈ lw_tbl) 1 b s Gz_719 := And.intro uz_692 uz_0
theorem uGz_720 (b s : Nat) : xall (fun _ a => a ∈ lw_tbl) 1 b s Gz_720 := And.intro uz_1716 uz_0
theorem uGz_721 (b s : Nat) : xall (fun _ a => a ∈ lw_tbl) 2 b s Gz_721 := And.intro (uGz_719 b (2 * s)) (uGz_720 (b + s) (2 * s))
theorem uGz_722 (b s : Nat) : xall (fun _ a => a ∈ lw_tbl) 3 b s Gz_722 := And.intro (uGz_718 b (2 * s)) (uGz_721 (b + s) (2 * s))
theorem uGz_723 (b s : Nat) : xall (fun _ a => a ∈ lw_tbl) 1 b s Gz_723 := And.intro uz_436 uz_0
theorem uGz_724 (b s : Nat) : xall (fun _ a => a ∈ lw_tbl) 1 b s Gz_724 := And.intro uz_1460 uz_0
theorem uGz_725 (b s : Nat) : xall (fun _ a => a ∈ lw_tbl) 2 b s Gz_725 := And.intro (uGz_723 b (2 * s)) (uGz_724 (b + s) (2 * s))
theorem uGz_726 (b s : Nat) : xall (fun _ a => a ∈ lw_tbl) 1 b s Gz_726 := And.intro uz_948 uz_0
theorem uGz_727 (b s : Nat) : xall (fun _ a => a ∈ lw_tbl) 1 b s Gz_727 := And.intro uz_1972 uz_0
theorem uGz_728 (b s : Nat) : xall (fun _ a => a ∈ lw_tbl) 2 b s Gz_728 := And.intro (uGz_726 b (2 * s)) (uGz_727 (b + s) (2 * s))
theorem uGz_729 (b s : Nat) : xall (fun _ a => a ∈ lw_tbl) 3 b s Gz_729 := And.intro (uGz_725 b (2 * s)) (uGz_728 (b + s) (2 * s))
theorem uGz_730 (b s : Nat) : xall (fun _ a => a ∈ lw_tbl) 4 b s Gz_730 := And.intro (uGz_722 b (2 * s)) (uGz_729 (b + s) (2 * s))
theorem uGz_731 (b s : Nat) : xall (fun _ a => a ∈ lw_tbl) 5 b s Gz_731 := And.intro (uGz_715 b (2 * s)) (uGz_730 (b + s) (2 * s))
theorem uGz_732 (b s : Nat) : xall (fun _ a => a ∈ lw_tbl) 1 b s Gz_732 := And.intro uz_116 uz_2164
theorem uGz_733 (b s : Nat) : xall (fun _ a => a ∈ lw_tbl) 1 b s Gz_733 := And.intro uz_1140 uz_0
theorem uGz_734 (b s : Nat) : xall (fun _ a => a ∈ lw_tbl) 2 b s Gz_734 := And.intro (uGz_732 b (2 * s)) (uGz_733 (b + s) (2 * s))
theorem uGz_735 (b s : Nat) : xall (fun _ a => a ∈ lw_tbl) 1 b s Gz_735 := And.intro uz_628 uz_0
theorem uGz_736 (b s : Nat) : xall (fun _ a => a ∈ lw_tbl) 1 b s Gz_736 := And.intro uz_1652 uz_0
theorem uGz_737 (b s : Nat) : xall (fun _ a => a ∈ lw_tbl) 2 b s Gz_737 := And.intro (uGz_735 b (2 * s)) (uGz_736 (b + s) (2 * s))
theorem uGz_738 (b s : Nat) : xall (fun _ a => a ∈ lw_tbl) 3 b s Gz_738 := And.intro (uGz_734 b (2 * s)) (uGz_737 (b + s) (2 * s))
theorem uGz_739 (b s : Nat) : xall (fun _ a => a ∈ lw_tbl) 1 b s Gz_739 := And.intro uz_372 uz_0
theorem uGz_740 (b s : Nat) : xall (fun _ a => a ∈ lw_tbl) 1 b s Gz_740 := And.intro uz_1396 uz_0
theorem uGz_741 (b s : Nat) : xall (fun _ a => a ∈ lw_tbl) 2 b s Gz_741 := And.intro (uGz_739 b (2 * s)) (uGz_740 (b + s) (2 * s))
theorem uGz_742 (b s : Nat) : xall (fun _ a => a ∈ lw_tbl) 1 b s Gz_742 := And.intro uz_884 uz_0
theorem uGz_743 (b s : Nat) : xall (fun _ a => a ∈ lw_tbl) 1 b s Gz_743 := And.intro uz_1908 uz_0
theorem uGz_744 (b s : Nat) : xall (fun _ a => a ∈ lw_tbl) 2 b s Gz_744 := And.intro (uGz_742 b (2 * s)) (uGz_743 (b + s) (2 * s))
theorem uGz_745 (b s : Nat) : xall (fun _ a => a ∈ lw_tbl) 3 b s Gz_745 := And.intro (uGz_741 b (2 * s)) (uGz_744 (b + s) (2 * s))
theorem uGz_746 (b s : Nat) : xall (fun _ a => a ∈ lw_tbl) 4 b s Gz_746 := And.intro (uGz_738 b (2 * s)) (uGz_745 (b + s) (2 * s))
theorem uGz_747 (b s : Nat) : xall (fun _ a => a ∈ lw_tbl) 1 b s Gz_747 := And.intro uz_244 uz_0
theorem uGz_748 (b s : Nat) : xall (fun _ a => a ∈ lw_tbl) 1 b s Gz_748 := And.intro uz_1268 uz_0
theorem uGz_749 (b s : Nat) : xall (fun _ a => a ∈ lw_tbl) 2 b s Gz_749 := And.intro (uGz_747 b (2 * s)) (uGz_748 (b + s) (2 * s))
theorem uGz_750 (b s : Nat) : xall (fun _ a => a ∈ lw_tbl) 1 b s Gz_750 := And.intro uz_756 uz_0
theorem uGz_751 (b s : Nat) : xall (fun _ a => a ∈ lw_tbl) 1 b s Gz_751 := And.intro uz_1780 uz_0
theorem uGz_752 (b s : Nat) : xall (fun _ a => a ∈ lw_tbl) 2 b s Gz_752 := And.intro (uGz_750 b (2 * s)) (uGz_751 (b + s) (2 * s))
theorem uGz_753 (b s : Nat) : xall (fun _ a => a ∈ lw_tbl) 3 b s Gz_753 := And.intro (uGz_749 b (2 * s)) (uGz_752 (b + s) (2 * s))
theorem uGz_754 (b s : Nat) : xall (fun _ a => a ∈ lw_tbl) 1 b s Gz_754 := And.intro uz_500 uz_0
theorem uGz_755 (b s : Nat) : xall (fun _ a => a ∈ lw_tbl) 1 b s Gz_755 := And.intro uz_1524 uz_0
theorem uGz_756 (b s : Nat) : xall (fun _ a => a ∈ lw_tbl) 2 b s Gz_756 := And.intro (uGz_754 b (2 * s)) (uGz_755 (b + s) (2 * s))
theorem uGz_757 (b s : Nat) : xall (fun _ a => a ∈ lw_tbl) 1 b s Gz_757 := And.intro uz_1012 uz_0
theorem uGz_758 (b s : Nat) : xall (fun _ a => a ∈ lw_tbl) 1 b s Gz_758 := And.intro uz_2036 uz_0
theorem uGz_759 (b s : Nat) : xall (fun _ a => a ∈ lw_tbl) 2 b s Gz_759 := And.intro (uGz_757 b (2 * s)) (uGz_758 (b + s) (2 * s))
theorem uGz_760 (b s : Nat) : xall (fun _ a => a ∈ lw_tbl) 3 b s Gz_760 := And.intro (uGz_756 b (2 * s)) (uGz_759 (b + s) (2 * s))
theorem uGz_761 (b s : Nat) : xall (fun _ a => a ∈ lw_tbl) 4 b s Gz_761 := And.intro (uGz_753 b (2 * s)) (uGz_760 (b + s) (2 * s))
theorem uGz_762 (b s : Nat) : xall (fun _ a => a ∈ lw_tbl) 5 b s Gz_762 := And.intro (uGz_746 b (2 * s)) (uGz_761 (b + s) (2 * s))
theorem uGz_763 (b s : Nat) : xall (fun _ a => a ∈ lw_tbl) 6 b s Gz_763 := And.intro (uGz_731 b (2 * s)) (uGz_762 (b + s) (2 * s))
theorem uGz_764 (b s : Nat) : xall (fun _ a => a ∈ lw_tbl) 7 b s Gz_764 := And.intro (uGz_700 b (2 * s)) (uGz_763 (b + s) (2 * s))
theorem uGz_765 (b s : Nat) : xall (fun _ a => a ∈ lw_tbl) 8 b s Gz_765 := And.intro (uGz_637 b (2 * s)) (uGz_764 (b + s) (2 * s))
theorem uGz_766 (b s : Nat) : xall (fun _ a => a ∈ lw_tbl) 1 b s Gz_766 := And.intro uz_12 uz_2060
theorem uGz_767 (b s : Nat) : xall (fun _ a => a ∈ lw_tbl) 1 b s Gz_767 := And.intro uz_1036 uz_0
theorem uGz_768 (b s : Nat) : xall (fun _ a => a ∈ lw_tbl) 2 b s Gz_768 := And.intro (uGz_766 b (2 * s)) (uGz_767 (b + s) (2 * s))
theorem uGz_769 (b s : Nat) : xall (fun _ a => a ∈ lw_tbl) 1 b s Gz_769 := And.intro uz_524 uz_0
theorem uGz_770 (b s : Nat) : xall (fun _ a => a ∈ lw_tbl) 1 b s Gz_770 := And.intro uz_1548 uz_0
theorem uGz_771 (b s : Nat) : xall (fun _ a => a ∈ lw_tbl) 2 b s Gz_771 := And.intro (uGz_769 b (2 * s)) (uGz_770 (b + s) (2 * s))
theorem uGz_772 (b s : Nat) : xall (fun _ a => a ∈ lw_tbl) 3 b s Gz_772 := And.intro (uGz_768 b (2 * s)) (uGz_771 (b + s) (2 * s))
theorem uGz_773 (b s : Nat) : xall (fun _ a => a ∈ lw_tbl) 1 b s Gz_773 := And.intro uz_268 uz_0
theorem uGz_774 (b s : Nat) : xall (fun _ a => a ∈ lw_tbl) 1 b s Gz_774 := And.intro uz_1292 uz_0
theorem uGz_775 (b s : Nat) : xall (fun _ a => a ∈ lw_tbl) 2 b s Gz_775 := And.intro (uGz_773 b (2 * s)) (uGz_774 (b + s) (2 * s))
theorem uGz_776 (b s : Nat) : xall (fun _ a => a ∈ lw_tbl) 1 b s Gz_776 := And.intro uz_780 uz_0
theorem uGz_777 (b s : Nat) : xall (fun _ a => a ∈ lw_tbl) 1 b s Gz_777 := And.intro uz_1804 uz_0
theorem uGz_778 (b s : Nat) : xall (fun _ a => a ∈ lw_tbl) 2 b s Gz_778 := And.intro (uGz_776 b (2 * s)) (uGz_777 (b + s) (2 * s))
theorem uGz_779 (b s : Nat) : xall (fun _ a => a ∈ lw_tbl) 3 b s Gz_779 := And.intro (uGz_775 b (2 * s)) (uGz_778 (b + s) (2 * s))
theorem uGz_780 (b s : Nat) : xall (fun _ a => a ∈ lw_tbl) 4 b s Gz_780 := And.intro (uGz_772 b (2 * s)) (uGz_779 (b + s) (2 * s))
theorem uGz_781 (b s : Nat) : xall (fun _ a => a ∈ lw_tbl) 1 b s Gz_781 := And.intro uz_140 uz_2188
theorem uGz_782 (b s : Nat) : xall (fun _ a => a ∈ lw_tbl) 1 b s Gz_782 := And.intro uz_1164 uz_0
theorem uGz_783 (b s : Nat) : xall (fun _ a => a ∈ lw_tbl) 2 b s Gz_783 := And.intro (uGz_781 b (2 * s)) (uGz_782 (b + s) (2 * s))
theorem uGz_784 (b s : Nat) : xall (fun _ a => a ∈ lw_tbl) 1 b s Gz_784 := And.intro uz_652 uz_0
theorem uGz_785 (b s : Nat) : xall (fun _ a => a ∈ lw_tbl) 1 b s Gz_785 := And.intro uz_1676 uz_0
theorem uGz_786 (b s : Nat) : xall (fun _ a => a ∈ lw_tbl) 2 b s Gz_786 := And.intro (uGz_784 b (2 * s)) (uGz_785 (b + s) (2 * s))
theorem uGz_787 (b s : Nat) : xall (fun _ a => a ∈ lw_tbl) 3 b s Gz_787 := And.intro (uGz_783 b (2 * s)) (uGz_786 (b + s) (2 * s))
theorem uGz_788 (b s : Nat) : xall (fun _ a => a ∈ lw_tbl) 1 b s Gz_788 := And.intro uz_396 uz_0
theorem uGz_789 (b s : Nat) : xall (fun _ a => a ∈ lw_tbl) 1 b s Gz_789 := And.intro uz_1420 uz_0
theorem uGz_790 (b s : Nat) : xall (fun _ a => a ∈ lw_tbl) 2 b s Gz_790 := And.intro (uGz_788 b (2 * s)) (uGz_789 (b + s) (2 * s))
theorem uGz_791 (b s : Nat) : xall (fun _ a => a ∈ lw_tbl) 1 b s Gz_791 := And.intro uz_908 uz_0
theorem uGz_792 (b s : Nat) : xall (fun _ a => a ∈ lw_tbl) 1 b s Gz_792 := And.intro uz_1932 uz_0
theorem uGz_793 (b s : Nat) : xall (fun _ a => a ∈ lw_tbl) 2 b s Gz_793 := And.intro (uGz_791 b (2 * s)) (uGz_792 (b + s) (2 * s))
theorem uGz_794 (b s : Nat) : xall (fun _ a => a ∈ lw_tbl) 3 b s Gz_794 := And.intro (uGz_790 b (2 * s)) (uGz_793 (b + s) (2 * s))
theorem uGz_795 (b s : Nat) : xall (fun _ a => a ∈ lw_tbl) 4 b s Gz_795 := And.intro (uGz_787 b (2 * s)) (uGz_794 (b + s) (2 * s))
theorem uGz_796 (b s : Nat) : xall (fun _ a => a ∈ lw_tbl) 5 b s Gz_796 := And.intro (uGz_780 b (2 * s)) (uGz_795 (b + s) (2 * s))
theorem uGz_797 (b s : Nat) : xall (fun _ a => a ∈ lw_tbl) 1 b s Gz_797 := And.intro uz_76 uz_2124
theorem uGz_798 (b s : Nat) : xall (fun _ a => a ∈ lw_tbl) 1 b s Gz_798 := And.intro uz_1100 uz_0
theorem uGz_799 (b s : Nat) : xall (fun _ a => a ∈ lw_tbl) 2 b s Gz_799 := And.intro (uGz_797 b (2 * s)) (uGz_798 (b + s) (2 * s))
theorem uGz_800 (b s : Nat) : xall (fun _ a => a ∈ lw_tbl) 1 b s Gz_800 := And.intro uz_588 uz_0
theorem uGz_801 (b s : Nat) : xall (fun _ a => a ∈ lw_tbl) 1 b s Gz_801 := And.intro uz_1612 uz_0
theorem uGz_802 (b s : Nat) : xall (fun _ a => a ∈ lw_tbl) 2 b s Gz_802 := And.intro (uGz_800 b (2 * s)) (uGz_801 (b + s) (2 * s))
theorem uGz_803 (b s : Nat) : xall (fun _ a => a ∈ lw_tbl) 3 b s Gz_803 := And.intro (uGz_799 b (2 * s)) (uGz_802 (b + s) (2 * s))
theorem uGz_804 (b s : Nat) : xall (fun _ a => a ∈ lw_tbl) 1 b s Gz_804 := And.intro uz_332 uz_0
theorem uGz_805 (b s : Nat) : xall (fun _ a => a ∈ lw_tbl) 1 b s Gz_805 := And.intro uz_1356 uz_0
theorem uGz_806 (b s : Nat) : xall (fun _ a => a ∈ lw_tbl) 2 b s Gz_806 := And.intro (uGz_804 b (2 * s)) (uGz_805 (b + s) (2 * s))
theorem uGz_807 (b s : Nat) : xall (fun _ a => a ∈ lw_tbl) 1 b s Gz_807 := And.intro uz_844 uz_0
theorem uGz_808 (b s : Nat) : xall (fun _ a => a ∈ lw_tbl) 1 b s Gz_808 := And.intro uz_1868 uz_0
theorem uGz_809 (b s : Nat) : xall (fun _ a => a ∈ lw_tbl) 2 b s Gz_809 := And.intro (uGz_807 b (2 * s)) (uGz_808 (b + s) (2 * s))
theorem uGz_810 (b s : Nat) : xall (fun _ a => a ∈ lw_tbl) 3 b s Gz_810 := And.intro (uGz_806 b (2 * s)) (uGz_809 (b + s) (2 * s))
theorem uGz_811 (b s : Nat) : xall (fun _ a => a ∈ lw_tbl) 4 b s Gz_811 := And.intro (uGz_803 b (2 * s)) (uGz_810 (b + s) (2 * s))
theorem uGz_812 (b s : Nat) : xall (fun _ a => a ∈ lw_tbl) 1 b s Gz_812 := And.intro uz_204 uz_2252
theorem uGz_813 (b s : Nat) : xall (fun _ a => a ∈ lw_tbl) 1 b s Gz_813 := And.intro uz_1228 uz_0
theorem uGz_814 (b s : Nat) : xall (fun _ a => a ∈ lw_tbl) 2 b s Gz_814 := And.intro (uGz_812 b (2 * s)) (uGz_813 (b + s) (2 * s))
theorem uGz_815 (b s : Nat) : xall (fun _ a => a ∈ lw_tbl) 1 b s Gz_815 := And.intro uz_716 uz_0
theorem uGz_816 (b s : Nat) : xall (fun _ a => a ∈ lw_tbl) 1 b s Gz_816 := And.intro uz_1740 uz_0
theorem uGz_817 (b s : Nat) : xall (fun _ a => a ∈ lw_tbl) 2 b s Gz_817 := And.intro (uGz_815 b (2 * s)) (uGz_816 (b + s) (2 * s))
theorem uGz_818 (b s : Nat) : xall (fun _ a => a ∈ lw_tbl) 3 b s Gz_818 := And.intro (uGz_814 b (2 * s)) (uGz_817 (b + s) (2 * s))
theorem uGz_819 (b s : Nat) : xall (fun _ a => a ∈ lw_tbl) 1 b s Gz_819 := And.intro uz_460 uz_0
theorem uGz_820 (b s : Nat) : xall (fun _ a => a ∈ lw_tbl) 1 b s Gz_820 := And.intro uz_1484 uz_0
theorem uGz_821 (b s : Nat) : xall (fun _ a => a ∈ lw_tbl) 2 b s Gz_821 := And.intro (uGz_819 b (2 * s)) (uGz_820 (b + s) (2 * s))
theorem uGz_822 (b s : Nat) : xall (fun _ a => a ∈ lw_tbl) 1 b s Gz_822 := And.intro uz_972 uz_0
theorem uGz_823 (b s : Nat) : xall (fun _ a => a ∈ lw_tbl) 1 b s Gz_823 := And.intro uz_1996 uz_0
theorem uGz_824 (b s : Nat) : xall (fun _ a => a ∈ lw_tbl) 2 b s Gz_824 := And.intro (uGz_822 b (2 * s)) (uGz_823 (b + s) (2 * s))
theorem uGz_825 (b s : Nat) : xall (fun _ a => a ∈ lw_tbl) 3 b s Gz_825 := And.intro (uGz_821 b (2 * s)) (uGz_824 (b + s) (2 * s))
theorem uGz_826 (b s : Nat) : xall (fun _ a => a ∈ lw_tbl) 4 b s Gz_826 := And.intro (uGz_818 b (2 * s)) (uGz_825 (b + s) (2 * s))
theorem uGz_827 (b s : Nat) : xall (fun _ a => a ∈ lw_tbl) 5 b s Gz_827 := And.intro (uGz_811 b (2 * s)) (uGz_826 (b + s) (2 * s))
theorem uGz_828 (b s : Nat) : xall (fun _ a => a ∈ lw_tbl) 6 b s Gz_828 := And.intro (uGz_796 b (2 * s)) (uGz_827 (b + s) (2 * s))
theorem uGz_829 (b s : Nat) : xall (fun _ a => a ∈ lw_tbl) 1 b s Gz_829 := And.intro uz_44 uz_2092
theorem uGz_830 (b s : Nat) : xall (fun _ a => a ∈ lw_tbl) 1 b s Gz_830 := And.intro uz_1068 uz_0
theorem uGz_831 (b s : Nat) : xall (fun _ a => a ∈ lw_tbl) 2 b s Gz_831 := And.intro (uGz_829 b (2 * s)) (uGz_830 (b + s) (2 * s))
theorem uGz_832 (b s : Nat) : xall (fun _ a => a ∈ lw_tbl) 1 b s Gz_832 := And.intro uz_556 uz_0
theorem uGz_833 (b s : Nat) : xall (fun _ a => a ∈ lw_tbl) 1 b s Gz_833 := And.intro uz_1580 uz_0
theorem uGz_834 (b s : Nat) : xall (fun _ a => a ∈ lw_tbl) 2 b s Gz_834 := And.intro (uGz_832 b (2 * s)) (uGz_833 (b + s) (2 * s))
theorem uGz_835 (b s : Nat) : xall (fun _ a => a ∈ lw_tbl) 3 b s Gz_835 := And.intro (uGz_831 b (2 * s)) (uGz_834 (b + s) (2 * s))
theorem uGz_836 (b s : Nat) : xall (fun _ a => a ∈ lw_tbl) 1 b s Gz_836 := And.intro uz_300 uz_0
theorem uGz_837 (b s : Nat) : xall (fun _ a => a ∈ lw_tbl) 1 b s Gz_837 := And.intro uz_1324 uz_0
theorem uGz_838 (b s : Nat) : xall (fun _ a => a ∈ lw_tbl) 2 b s Gz_838 := And.intro (uGz_836 b (2 * s)) (uGz_837 (b + s) (2 * s))
theorem uGz_839 (b s : Nat) : xall (fun _ a => a ∈ lw_tbl) 1 b s Gz_839 := And.intro uz_812 uz_0
theorem uGz_840 (b s : Nat) : xall (fun _ a => a ∈ lw_tbl) 1 b s Gz_840 := And.intro uz_1836 uz_0
theorem uGz_841 (b s : Nat) : xall (fun _ a => a ∈ lw_tbl) 2 b s Gz_841 := And.intro (uGz_839 b (2 * s)) (uGz_840 (b + s) (2 * s))
theorem uGz_842 (b s : Nat) : xall (fun _ a => a ∈ lw_tbl) 3 b s Gz_842 := And.intro (uGz_838 b (2 * s)) (uGz_841 (b + s) (2 * s))
theorem uGz_843 (b s : Nat) : xall (fun _ a => a ∈ lw_tbl) 4 b s Gz_843 := And.intro (uGz_835 b (2 * s)) (uGz_842 (b + s) (2 * s))
theorem uGz_844 (b s : Nat) : xall (fun _ a => a ∈ lw_tbl) 1 b s Gz_844 := And.intro uz_172 uz_2220
theorem uGz_845 (b s : Nat) : xall (fun _ a => a ∈ lw_tbl) 1 b s Gz_845 := And.intro uz_1196 uz_0
theorem uGz_846 (b s : Nat) : xall (fun _ a => a ∈ lw_tbl) 2 b s Gz_846 := And.intro (uGz_844 b (2 * s)) (uGz_845 (b + s) (2 * s))
theorem uGz_847 (b s : Nat) : xall (fun _ a => a ∈ lw_tbl) 1 b s Gz_847 := And.intro uz_684 uz_0
theorem uGz_848 (b s : Nat) : xall (fun _ a => a ∈ lw_tbl) 1 b s Gz_848 := And.intro uz_1708 uz_0
theorem uGz_849 (b s : Nat) : xall (fun _ a => a ∈ lw_tbl) 2 b s Gz_849 := And.intro (uGz_847 b (2 * s)) (uGz_848 (b + s) (2 * s))
theorem uGz_850 (b s : Nat) : xall (fun _ a => a ∈ lw_tbl) 3 b s Gz_850 := And.intro (uGz_846 b (2 * s)) (uGz_849 (b + s) (2 * s))
theorem uGz_851 (b s : Nat) : xall (fun _ a => a ∈ lw_tbl) 1 b s Gz_851 := And.intro uz_428 uz_0
theorem uGz_852 (b s : Nat) : xall (fun _ a => a ∈ lw_tbl) 1 b s Gz_852 := And.intro uz_1452 uz_0
theorem uGz_853 (b s : Nat) : xall (fun _ a => a ∈ lw_tbl) 2 b s Gz_853 := And.intro (uGz_851 b (2 * s)) (uGz_852 (b + s) (2 * s))
theorem uGz_854 (b s : Nat) : xall (fun _ a => a ∈ lw_tbl) 1 b s Gz_854 := And.intro uz_940 uz_0
theorem uGz_855 (b s : Nat) : xall (fun _ a => a ∈ lw_tbl) 1 b s Gz_855 := And.intro uz_1964 uz_0
theorem uGz_856 (b s : Nat) : xall (fun _ a => a ∈ lw_tbl) 2 b s Gz_856 := And.intro (uGz_854 b (2 * s)) (uGz_855 (b + s) (2 * s))
theorem uGz_857 (b s : Nat) : xall (fun _ a => a ∈ lw_tbl) 3 b s Gz_857 := And.intro (uGz_853 b (2 * s)) (uGz_856 (b + s) (2 * s))
theorem uGz_858 (b s : Nat) : xall (fun _ a => a ∈ lw_tbl) 4 b s Gz_858 := And.intro (uGz_850 b (2 * s)) (uGz_857 (b + s) (2 * s))
theorem uGz_859 (b s : Nat) : xall (fun _ a => a ∈ lw_tbl) 5 b s Gz_859 := And.intro (uGz_843 b (2 * s)) (uGz_858 (b + s) (2 * s))
theorem uGz_860 (b s : Nat) : xall (fun _ a => a ∈ lw_tbl) 1 b s Gz_860 := And.intro uz_108 uz_2156
theorem uGz_861 (b s : Nat) : xall (fun _ a => a ∈ lw_tbl) 1 b s Gz_861 := And.intro uz_1132 uz_0
theorem uGz_862 (b s : Nat) : xall (fun _ a => a ∈ lw_tbl) 2 b s Gz_862 := And.intro (uGz_860 b (2 * s)) (uGz_861 (b + s) (2 * s))
theorem uGz_863 (b s : Nat) : xall (fun _ a => a ∈ lw_tbl) 1 b s Gz_863 := And.intro uz_620 uz_0
theorem uGz_864 (b s : Nat) : xall (fun _ a => a ∈ lw_tbl) 1 b s Gz_864 := And.intro uz_1644 uz_0
theorem uGz_865 (b s : Nat) : xall (fun _ a => a ∈ lw_tbl) 2 b s Gz_865 := And.intro (uGz_863 b (2 * s)) (uGz_864 (b + s) (2 * s))
theorem uGz_866 (b s : Nat) : xall (fun _ a => a ∈ lw_tbl) 3 b s Gz_866 := And.intro (uGz_862 b (2 * s)) (uGz_865 (b + s) (2 * s))
theorem uGz_867 (b s : Nat) : xall (fun _ a => a ∈ lw_tbl) 1 b s Gz_867 := And.intro uz_364 uz_0
theorem uGz_868 (b s : Nat) : xall (fun _ a => a ∈ lw_tbl) 1 b s Gz_868 := And.intro uz_1388 uz_0
theorem uGz_869 (b s : Nat) : xall (fun _ a => a ∈ lw_tbl) 2 b s Gz_869 := And.intro (uGz_867 b (2 * s)) (uGz_868 (b + s) (2 * s))
theorem uGz_870 (b s : Nat) : xall (fun _ a => a ∈ lw_tbl) 1 b s Gz_870 := And.intro uz_876 uz_0
theorem uGz_871 (b s : Nat) : xall (fun _ a => a ∈ lw_tbl) 1 b s Gz_871 := And.intro uz_1900 uz_0
theorem uGz_872 (b s : Nat) : xall (fun _ a => a ∈ lw_tbl) 2 b s Gz_872 := And.intro (uGz_870 b (2 * s)) (uGz_871 (b + s) (2 * s))
theorem uGz_873 (b s : Nat) : xall (fun _ a => a ∈ lw_tbl) 3 b s Gz_873 := And.intro (uGz_869 b (2 * s)) (uGz_872 (b + s) (2 * s))
theorem uGz_874 (b s : Nat) : xall (fun _ a => a ∈ lw_tbl) 4 b s Gz_874 := And.intro (uGz_866 b (2 * s)) (uGz_873 (b + s) (2 * s))
theorem uGz_875 (b s : Nat) : xall (fun _ a => a ∈ lw_tbl) 1 b s Gz_875 := And.intro uz_236 uz_0
theorem uGz_876 (b s : Nat) : xall (fun _ a => a ∈ lw_tbl) 1 b s Gz_876 := And.intro uz_1260 uz_0
theorem uGz_877 (b s : Nat) : xall (fun _ a => a ∈ lw_tbl) 2 b s Gz_877 := And.intro (uGz_875 b (2 * s)) (uGz_876 (b + s) (2 * s))
theorem uGz_878 (b s : Nat) : xall (fun _ a => a ∈ lw_tbl) 1 b s Gz_878 := And.intro uz_748 uz_0
theorem uGz_879 (b s : Nat) : xall (fun _ a => a ∈ lw_tbl) 1 b s Gz_879 := And.intro uz_1772 uz_0
theorem uGz_880 (b s : Nat) : xall (fun _ a => a ∈ lw_tbl) 2 b s Gz_880 := And.intro (uGz_878 b (2 * s)) (uGz_879 (b + s) (2 * s))
theorem uGz_881 (b s : Nat) : xall (fun _ a => a ∈ lw_tbl) 3 b s Gz_881 := And.intro (uGz_877 b (2 * s)) (uGz_880 (b + s) (2 * s))
theorem uGz_882 (b s : Nat) : xall (fun _ a => a ∈ lw_tbl) 1 b s Gz_882 := And.intro uz_492 uz_0
theorem uGz_883 (b s : Nat) : xall (fun _ a => a ∈ lw_tbl) 1 b s Gz_883 := And.intro uz_1516 uz_0
theorem uGz_884 (b s : Nat) : xall (fun _ a => a ∈ lw_tbl) 2 b s Gz_884 := And.intro (uGz_882 b (2 * s)) (uGz_883 (b + s) (2 * s))
theorem uGz_885 (b s : Nat) : xall (fun _ a => a ∈ lw_tbl) 1 b s Gz_885 := And.intro uz_1004 uz_0
theorem uGz_886 (b s : Nat) : xall (fun _ a => a ∈ lw_tbl) 1 b s Gz_886 := And.intro uz_2028 uz_0
theorem uGz_887 (b s : Nat) : xall (fun _ a => a ∈ lw_tbl) 2 b s Gz_887 := And.intro (uGz_885 b (2 * s)) (uGz_886 (b + s) (2 * s))
theorem uGz_888 (b s : Nat) : xall (fun _ a => a ∈ lw_tbl) 3 b s Gz_888 := And.intro (uGz_884 b (2 * s)) (uGz_887 (b + s) (2 * s))
theorem uGz_889 (b s : Nat) : xall (fun _ a => a ∈ lw_tbl) 4 b s Gz_889 := And.intro (uGz_881 b (2 * s)) (uGz_888 (b + s) (2 * s))
theorem uGz_890 (b s : Nat) : xall (fun _ a => a ∈ lw_tbl) 5 b s Gz_890 := And.intro (uGz_874 b (2 * s)) (uGz_889 (b + s) (2 * s))
theorem uGz_891 (b s : Nat) : xall (fun _ a => a ∈ lw_tbl) 6 b s Gz_891 := And.intro (uGz_859 b (2 * s)) (uGz_890 (b + s) (2 * s))
theorem uGz_892 (b s : Nat) : xall (fun _ a => a ∈ lw_tbl) 7 b s Gz_892 := And.intro (uGz_828 b (2 * s)) (uGz_891 (b + s) (2 * s))
theorem uGz_893 (b s : Nat) : xall (fun _ a => a ∈ lw_tbl) 1 b s Gz_893 := And.intro uz_28 uz_2076
theorem uGz_894 (b s : Nat) : xall (fun _ a => a ∈ lw_tbl) 1 b s Gz_894 := And.intro uz_1052 uz_0
theorem uGz_895 (b s : Nat) : xall (fun _ a => a ∈ lw_tbl) 2 b s Gz_895 := And.intro (uGz_893 b (2 * s)) (uGz_894 (b + s) (2 * s))
theorem uGz_896 (b s : Nat) : xall (fun _ a => a ∈ lw_tbl) 1 b s Gz_896 := And.intro uz_540 uz_0
theorem uGz_897 (b s : Nat) : xall (fun _ a => a ∈ lw_tbl) 1 b s Gz_897 := And.intro uz_1564 uz_0
theorem uGz_898 (b s : Nat) : xall (fun _ a => a ∈ lw_tbl) 2 b s Gz_898 := And.intro (uGz_896 b (2 * s)) (uGz_897 (b + s) (2 * s))
theorem uGz_899 (b s : Nat) : xall (fun _ a => a ∈ lw_tbl) 3 b s Gz_899 := And.intro (uGz_895 b (2 * s)) (uGz_898 (b + s) (2 * s))
theorem uGz_900 (b s : Nat) : xall (fun _ a => a ∈ lw_tbl) 1 b s Gz_900 := And.intro uz_284 uz_0
theorem uGz_901 (b s : Nat) : xall (fun _ a => a ∈ lw_tbl) 1 b s Gz_901 := And.intro uz_1308 uz_0
theorem uGz_902 (b s : Nat) : xall (fun _ a => a ∈ lw_tbl) 2 b s Gz_902 := And.intro (uGz_900 b (2 * s)) (uGz_901 (b + s) (2 * s))
theorem uGz_903 (b s : Nat) : xall (fun _ a => a ∈ lw_tbl) 1 b s Gz_903 := And.intro uz_796 uz_0
theorem uGz_904 (b s : Nat) : xall (fun _ a => a ∈ lw_tbl) 1 b s Gz_904 := And.intro uz_1820 uz_0
theorem uGz_905 (b s : Nat) : xall (fun _ a => a ∈ lw_tbl) 2 b s Gz_905 := And.intro (uGz_903 b (2 * s)) (uGz_904 (b + s) (2 * s))
theorem uGz_906 (b s : Nat) : xall (fun _ a => a ∈ lw_tbl) 3 b s Gz_906 := And.intro (uGz_902 b (2 * s)) (uGz_905 (b + s) (2 * s))
theorem uGz_907 (b s : Nat) : xall (fun _ a => a ∈ lw_tbl) 4 b s Gz_907 := And.intro (uGz_899 b (2 * s)) (uGz_906 (b + s) (2 * s))
theorem uGz_908 (b s : Nat) : xall (fun _ a => a ∈ lw_tbl) 1 b s Gz_908 := And.intro uz_156 uz_2204
theorem uGz_909 (b s : Nat) : xall (fun _ a => a ∈ lw_tbl) 1 b s Gz_909 := And.intro uz_1180 uz_0
theorem uGz_910 (b s : Nat) : xall (fun _ a => a ∈ lw_tbl) 2 b s Gz_910 := And.intro (uGz_908 b (2 * s)) (uGz_909 (b + s) (2 * s))
theorem uGz_911 (b s : Nat) : xall (fun _ a => a ∈ lw_tbl) 1 b s Gz_911 := And.intro uz_668 uz_0
theorem uGz_912 (b s : Nat) : xall (fun _ a => a ∈ lw_tbl) 1 b s Gz_912 := And.intro uz_1692 uz_0
theorem uGz_913 (b s : Nat) : xall (fun _ a => a ∈ lw_tbl) 2 b s Gz_913 := And.intro (uGz_911 b (2 * s)) (uGz_912 (b + s) (2 * s))
theorem uGz_914 (b s : Nat) : xall (fun _ a => a ∈ lw_tbl) 3 b s Gz_914 := And.intro (uGz_910 b (2 * s)) (uGz_913 (b + s) (2 * s))
theorem uGz_915 (b s : Nat) : xall (fun _ a => a ∈ lw_tbl) 1 b s Gz_915 := And.intro uz_412 uz_0
theorem uGz_916 (b s : Nat) : xall (fun _ a => a ∈ lw_tbl) 1 b s Gz_916 := And.intro uz_1436 uz_0
theorem uGz_917 (b s : Nat) : xall (fun _ a => a ∈ lw_tbl) 2 b s Gz_917 := And.intro (uGz_915 b (2 * s)) (uGz_916 (b + s) (2 * s))
theorem uGz_918 (b s : Nat) : xall (fun _ a => a ∈ lw_tbl) 1 b s Gz_918 := And.intro uz_924 uz_0
theorem uGz_919 (b s : Nat) : xall (fun _ a => a ∈ lw_tbl) 1 b s Gz_919 := And.intro uz_1948 uz_0
theorem uGz_920 (b s : Nat) : xall (fun _ a => a ∈ lw_tbl) 2 b s Gz_920 := And.intro (uGz_918 b (2 * s)) (uGz_919 (b + s) (2 * s))
theorem uGz_921 (b s : Nat) : xall (fun _ a => a ∈ lw_tbl) 3 b s Gz_921 := And.intro (uGz_917 b (2 * s)) (uGz_920 (b + s) (2 * s))
theorem uGz_922 (b s : Nat) : xall (fun _ a => a ∈ lw_tbl) 4 b s Gz_922 := And.intro (uGz_914 b (2 * s)) (uGz_921 (b + s) (2 * s))
theorem uGz_923 (b s : Nat) : xall (fun _ a => a ∈ lw_tbl) 5 b s Gz_923 := And.intro (uGz_907 b (2 * s)) (uGz_922 (b + s) (2 * s))
theorem uGz_924 (b s : Nat) : xall (fun _ a => a ∈ lw_tbl) 1 b s Gz_924 := And.intro uz_92 uz_2140
theorem uGz_925 (b s : Nat) : xall (fun _ a => a ∈ lw_tbl) 1 b s Gz_925 := And.intro uz_1116 uz_0
theorem uGz_926 (b s : Nat) : xall (fun _ a => a ∈ lw_tbl) 2 b s Gz_926 := And.intro (uGz_924 b (2 * s)) (uGz_925 (b + s) (2 * s))
theorem uGz_927 (b s : Nat) : xall (fun _ a => a ∈ lw_tbl) 1 b s Gz_927 := And.intro uz_604 uz_0
theorem uGz_928 (b s : Nat) : xall (fun _ a => a ∈ lw_tbl) 1 b s Gz_928 := And.intro uz_1628 uz_0
theorem uGz_929 (b s : Nat) : xall (fun _ a => a ∈ lw_tbl) 2 b s Gz_929 := And.intro (uGz_927 b (2 * s)) (uGz_928 (b + s) (2 * s))
theorem uGz_930 (b s : Nat) : xall (fun _ a => a ∈ lw_tbl) 3 b s Gz_930 := And.intro (uGz_926 b (2 * s)) (uGz_929 (b + s) (2 * s))
theorem uGz_931 (b s : Nat) : xall (fun _ a => a ∈ lw_tbl) 1 b s Gz_931 := And.intro uz_348 uz_0
theorem uGz_932 (b s : Nat) : xall (fun _ a => a ∈ lw_tbl) 1 b s Gz_932 := And.intro uz_1372 uz_0
theorem uGz_933 (b s : Nat) : xall (fun _ a => a ∈ lw_tbl) 2 b s Gz_933 := And.intro (uGz_931 b (2 * s)) (uGz_932 (b + s) (2 * s))
theorem uGz_934 (b s : Nat) : xall (fun _ a => a ∈ lw_tbl) 1 b s Gz_934 := And.intro uz_860 uz_0
theorem uGz_935 (b s : Nat) : xall (fun _ a => a ∈ lw_tbl) 1 b s Gz_935 := And.intro uz_1884 uz_0
theorem uGz_936 (b s : Nat) : xall (fun _ a => a ∈ lw_tbl) 2 b s Gz_936 := And.intro (uGz_934 b (2 * s)) (uGz_935 (b + s) (2 * s))
theorem uGz_937 (b s : Nat) : xall (fun _ a => a ∈ lw_tbl) 3 b s Gz_937 := And.intro (uGz_933 b (2 * s)) (uGz_936 (b + s) (2 * s))
theorem uGz_938 (b s : Nat) : xall (fun _ a => a ∈ lw_tbl) 4 b s Gz_938 := And.intro (uGz_930 b (2 * s)) (uGz_937 (b + s) (2 * s))
theorem uGz_939 (b s : Nat) : xall (fun _ a => a ∈ lw_tbl) 1 b s Gz_939 := And.intro uz_220 uz_0
theorem uGz_940 (b s : Nat) : xall (fun _ a => a ∈ lw_tbl) 1 b s Gz_940 := And.intro uz_1244 uz_0
theorem uGz_941 (b s : Nat) : xall (fun _ a => a ∈ lw_tbl) 2 b s Gz_941 := And.intro (uGz_939 b (2 * s)) (uGz_940 (b + s) (2 * s))
theorem uGz_942 (b s : Nat) : xall (fun _ a => a ∈ lw_tbl) 1 b s Gz_942 := And.intro uz_732 uz_0
theorem uGz_943 (b s : Nat) : xall (fun _ a => a ∈ lw_tbl) 1 b s Gz_943 := And.intro uz_1756 uz_0
theorem uGz_944 (b s : Nat) : xall (fun _ a => a ∈ lw_tbl) 2 b s Gz_944 := And.intro (uGz_942 b (2 * s)) (uGz_943 (b + s) (2 * s))
theorem uGz_945 (b s : Nat) : xall (fun _ a => a ∈ lw_tbl) 3 b s Gz_945 := And.intro (uGz_941 b (2 * s)) (uGz_944 (b + s) (2 * s))
theorem uGz_946 (b s : Nat) : xall (fun _ a => a ∈ lw_tbl) 1 b s Gz_946 := And.intro uz_476 uz_0
theorem uGz_947 (b s : Nat) : xall (fun _ a => a ∈ lw_tbl) 1 b s Gz_947 := And.intro uz_1500 uz_0
theorem uGz_948 (b s : Nat) : xall (fun _ a => a ∈ lw_tbl) 2 b s Gz_948 := And.intro (uGz_946 b (2 * s)) (uGz_947 (b + s) (2 * s))
theorem uGz_949 (b s : Nat) : xall (fun _ a => a ∈ lw_tbl) 1 b s Gz_949 := And.intro uz_988 uz_0
theorem uGz_950 (b s : Nat) : xall (fun _ a => a ∈ lw_tbl) 1 b s Gz_950 := And.intro uz_2012 uz_0
theorem uGz_951 (b s : Nat) : xall (fun _ a => a ∈ lw_tbl) 2 b s Gz_951 := And.intro (uGz_949 b (2 * s)) (uGz_950 (b + s) (2 * s))
theorem uGz_952 (b s : Nat) : xall (fun _ a => a ∈ lw_tbl) 3 b s Gz_952 := And.intro (uGz_948 b (2 * s)) (uGz_951 (b + s) (2 * s))
theorem uGz_953 (b s : Nat) : xall (fun _ a => a ∈ lw_tbl) 4 b s Gz_953 := And.intro (uGz_945 b (2 * s)) (uGz_952 (b + s) (2 * s))
theorem uGz_954 (b s : Nat) : xall (fun _ a => a ∈ lw_tbl) 5 b s Gz_954 := And.intro (uGz_938 b (2 * s)) (uGz_953 (b + s) (2 * s))
theorem uGz_955 (b s : Nat) : xall (fun _ a => a ∈ lw_tbl) 6 b s Gz_955 := And.intro (uGz_923 b (2 * s)) (uGz_954 (b + s) (2 * s))
theorem uGz_956 (b s : Nat) : xall (fun _ a => a ∈ lw_tbl) 1 b s Gz_956 := And.intro uz_60 uz_2108
theorem uGz_957 (b s : Nat) : xall (fun _ a => a ∈ lw_tbl) 1 b s Gz_957 := And.intro uz_1084 uz_0
theorem uGz_958 (b s : Nat) : xall (fun _ a => a ∈ lw_tbl) 2 b s Gz_958 := And.intro (uGz_956 b (2 * s)) (uGz_957 (b + s) (2 * s))
theorem uGz_959 (b s : Nat) : xall (fun _ a => a ∈ lw_tbl) 1 b s Gz_959 := And.intro uz_572 uz_0
theorem uGz_960 (b s : Nat) : xall (fun _ a => a ∈ lw_tbl) 1 b s Gz_960 := And.intro uz_1596 uz_0
theorem uGz_961 (b s : Nat) : xall (fun _ a => a ∈ lw_tbl) 2 b s Gz_961 := And.intro (uGz_959 b (2 * s)) (uGz_960 (b + s) (2 * s))
theorem uGz_962 (b s : Nat) : xall (fun _ a => a ∈ lw_tbl) 3 b s Gz_962 := And.intro (uGz_958 b (2 * s)) (uGz_961 (b + s) (2 * s))
theorem uGz_963 (b s : Nat) : xall (fun _ a => a ∈ lw_tbl) 1 b s Gz_963 := And.intro uz_316 uz_0
theorem uGz_964 (b s : Nat) : xall (fun _ a => a ∈ lw_tbl) 1 b s Gz_964 := And.intro uz_1340 uz_0
theorem uGz_965 (b s : Nat) : xall (fun _ a => a ∈ lw_tbl) 2 b s Gz_965 := And.intro (uGz_963 b (2 * s)) (uGz_964 (b + s) (2 * s))
theorem uGz_966 (b s : Nat) : xall (fun _ a => a ∈ lw_tbl) 1 b s Gz_966 := And.intro uz_828 uz_0
theorem uGz_967 (b s : Nat) : xall (fun _ a => a ∈ lw_tbl) 1 b s Gz_967 := And.intro uz_1852 uz_0
theorem uGz_968 (b s : Nat) : xall (fun _ a => a ∈ lw_tbl) 2 b s Gz_968 := And.intro (uGz_966 b (2 * s)) (uGz_967 (b + s) (2 * s))
theorem uGz_969 (b s : Nat) : xall (fun _ a => a ∈ lw_tbl) 3 b s Gz_969 := And.intro (uGz_965 b (2 * s)) (uGz_968 (b + s) (2 * s))
theorem uGz_970 (b s : Nat) : xall (fun _ a => a ∈ lw_tbl) 4 b s Gz_970 := And.intro (uGz_962 b (2 * s)) (uGz_969 (b + s) (2 * s))
theorem uGz_971 (b s : Nat) : xall (fun _ a => a ∈ lw_tbl) 1 b s Gz_971 := And.intro uz_188 uz_2236
theorem uGz_972 (b s : Nat) : xall (fun _ a => a ∈ lw_tbl) 1 b s Gz_972 := And.intro uz_1212 uz_0
theorem uGz_973 (b s : Nat) : xall (fun _ a => a ∈ lw_tbl) 2 b s Gz_973 := And.intro (uGz_971 b (2 * s)) (uGz_972 (b + s) (2 * s))
theorem uGz_974 (b s : Nat) : xall (fun _ a => a ∈ lw_tbl) 1 b s Gz_974 := And.intro uz_700 uz_0
theorem uGz_975 (b s : Nat) : xall (fun _ a => a ∈ lw_tbl) 1 b s Gz_975 := And.intro uz_1724 uz_0
theorem uGz_976 (b s : Nat) : xall (fun _ a => a ∈ lw_tbl) 2 b s Gz_976 := And.intro (uGz_974 b (2 * s)) (uGz_975 (b + s) (2 * s))
theorem uGz_977 (b s : Nat) : xall (fun _ a => a ∈ lw_tbl) 3 b s Gz_977 := And.intro (uGz_973 b (2 * s)) (uGz_976 (b + s) (2 * s))
theorem uGz_978 (b s : Nat) : xall (fun _ a => a ∈ lw_tbl) 1 b s Gz_978 := And.intro uz_444 uz_0
theorem uGz_979 (b s : Nat) : xall (fun _ a => a ∈ lw_tbl) 1 b s Gz_979 := And.intro uz_1468 uz_0
theorem uGz_980 (b s : Nat) : xall (fun _ a => a ∈ lw_tbl) 2 b s Gz_980 := And.intro (uGz_978 b (2 * s)) (uGz_979 (b + s) (2 * s))
theorem uGz_981 (b s : Nat) : xall (fun _ a => a ∈ lw_tbl) 1 b s Gz_981 := And.intro uz_956 uz_0
theorem uGz_982 (b s : Nat) : xall (fun _ a => a ∈ lw_tbl) 1 b s Gz_982 := And.intro uz_1980 uz_0
theorem uGz_983 (b s : Nat) : xall (fun _ a => a ∈ lw_tbl) 2 b s Gz_983 := And.intro (uGz_981 b (2 * s)) (uGz_982 (b + s) (2 * s))
theorem uGz_984 (b s : Nat) : xall (fun _ a => a ∈ lw_tbl) 3 b s Gz_984 := And.intro (uGz_980 b (2 * s)) (uGz_983 (b + s) (2 * s))
theorem uGz_985 (b s : Nat) : xall (fun _ a => a ∈ lw_tbl) 4 b s Gz_985 := And.intro (uGz_977 b (2 * s)) (uGz_984 (b + s) (2 * s))
theorem uGz_986 (b s : Nat) : xall (fun _ a => a ∈ lw_tbl) 5 b s Gz_986 := And.intro (uGz_970 b (2 * s)) (uGz_985 (b + s) (2 * s))
theorem uGz_987 (b s : Nat) : xall (fun _ a => a ∈ lw_tbl) 1 b s Gz_987 := And.intro uz_124 uz_2172
theorem uGz_988 (b s : Nat) : xall (fun _ a => a ∈ lw_tbl) 1 b s Gz_988 := And.intro uz_1148 uz_0
theorem uGz_989 (b s : Nat) : xall (fun _ a => a ∈ lw_tbl) 2 b s Gz_989 := And.intro (uGz_987 b (2 * s)) (uGz_988 (b + s) (2 * s))
theorem uGz_990 (b s : Nat) : xall (fun _ a => a ∈ lw_tbl) 1 b s Gz_990 := And.intro uz_636 uz_0
theorem uGz_991 (b s : Nat) : xall (fun _ a => a ∈ lw_tbl) 1 b s Gz_991 := And.intro uz_1660 uz_0
theorem uGz_992 (b s : Nat) : xall (fun _ a => a ∈ lw_tbl) 2 b s Gz_992 := And.intro (uGz_990 b (2 * s)) (uGz_991 (b + s) (2 * s))
theorem uGz_993 (b s : Nat) : xall (fun _ a => a ∈ lw_tbl) 3 b s Gz_993 := And.intro (uGz_989 b (2 * s)) (uGz_992 (b + s) (2 * s))
theorem uGz_994 (b s : Nat) : xall (fun _ a => a ∈ lw_tbl) 1 b s Gz_994 := And.intro uz_380 uz_0
theorem uGz_995 (b s : Nat) : xall (fun _ a => a ∈ lw_tbl) 1 b s Gz_995 := And.intro uz_1404 uz_0
theorem uGz_996 (b s : Nat) : xall (fun _ a => a ∈ lw_tbl) 2 b s Gz_996 := And.intro (uGz_994 b (2 * s)) (uGz_995 (b + s) (2 * s))
theorem uGz_997 (b s : Nat) : xall (fun _ a => a ∈ lw_tbl) 1 b s Gz_997 := And.intro uz_892 uz_0
theorem uGz_998 (b s : Nat) : xall (fun _ a => a ∈ lw_tbl) 1 b s Gz_998 := And.intro uz_1916 uz_0
theorem uGz_999 (b s : Nat) : xall (fun _ a => a ∈ lw_tbl) 2 b s Gz_999 := And.intro (uGz_997 b (2 * s)) (uGz_998 (b + s) (2 * s))
theorem uGz_1000 (b s : Nat) : xall (fun _ a => a ∈ lw_tbl) 3 b s Gz_1000 := And.intro (uGz_996 b (2 * s)) (uGz_999 (b + s) (2 * s))
theorem uGz_1001 (b s : Nat) : xall (fun _ a => a ∈ lw_tbl) 4 b s Gz_1001 := And.intro (uGz_993 b (2 * s)) (uGz_1000 (b + s) (2 * s))
theorem uGz_1002 (b s : Nat) : xall (fun _ a => a ∈ lw_tbl) 1 b s Gz_1002 := And.intro uz_252 uz_0
theorem uGz_1003 (b s : Nat) : xall (fun _ a => a ∈ lw_tbl) 1 b s Gz_1003 := And.intro uz_1276 uz_0
theorem uGz_1004 (b s : Nat) : xall (fun _ a => a ∈ lw_tbl) 2 b s Gz_1004 := And.intro (uGz_1002 b (2 * s)) (uGz_1003 (b + s) (2 * s))
theorem uGz_1005 (b s : Nat) : xall (fun _ a => a ∈ lw_tbl) 1 b s Gz_1005 := And.intro uz_764 uz_0
theorem uGz_1006 (b s : Nat) : xall (fun _ a => a ∈ lw_tbl) 1 b s Gz_1006 := And.intro uz_1788 uz_0
theorem uGz_1007 (b s : Nat) : xall (fun _ a => a ∈ lw_tbl) 2 b s Gz_1007 := And.intro (uGz_1005 b (2 * s)) (uGz_1006 (b + s) (2 * s))
theorem uGz_1008 (b s : Nat) : xall (fun _ a => a ∈ lw_tbl) 3 b s Gz_1008 := And.intro (uGz_1004 b (2 * s)) (uGz_1007 (b + s) (2 * s))
theorem uGz_1009 (b s : Nat) : xall (fun _ a => a ∈ lw_tbl) 1 b s Gz_1009 := And.intro uz_508 uz_0
theorem uGz_1010 (b s : Nat) : xall (fun _ a => a ∈ lw_tbl) 1 b s Gz_1010 := And.intro uz_1532 uz_0
theorem uGz_1011 (b s : Nat) : xall (fun _ a => a ∈ lw_tbl) 2 b s Gz_1011 := And.intro (uGz_1009 b (2 * s)) (uGz_1010 (b + s) (2 * s))
theorem uGz_1012 (b s : Nat) : xall (fun _ a => a ∈ lw_tbl) 1 b s Gz_1012 := And.intro uz_1020 uz_0
theorem uGz_1013 (b s : Nat) : xall (fun _ a => a ∈ lw_tbl) 1 b s Gz_1013 := And.intro uz_2044 uz_0
theorem uGz_1014 (b s : Nat) : xall (fun _ a => a ∈ lw_tbl) 2 b s Gz_1014 := And.intro (uGz_1012 b (2 * s)) (uGz_1013 (b + s) (2 * s))
theorem uGz_1015 (b s : Nat) : xall (fun _ a => a ∈ lw_tbl) 3 b s Gz_1015 := And.intro (uGz_1011 b (2 * s)) (uGz_1014 (b + s) (2 * s))
theorem uGz_1016 (b s : Nat) : xall (fun _ a => a ∈ lw_tbl) 4 b s Gz_1016 := And.intro (uGz_1008 b (2 * s)) (uGz_1015 (b + s) (2 * s))
theorem uGz_1017 (b s : Nat) : xall (fun _ a => a ∈ lw_tbl) 5 b s Gz_1017 := And.intro (uGz_1001 b (2 * s)) (uGz_1016 (b + s) (2 * s))
theorem uGz_1018 (b s : Nat) : xall (fun _ a => a ∈ lw_tbl) 6 b s Gz_1018 := And.intro (uGz_986 b (2 * s)) (uGz_1017 (b + s) (2 * s))
theorem uGz_1019 (b s : Nat) : xall (fun _ a => a ∈ lw_tbl) 7 b s Gz_1019 := And.intro (uGz_955 b (2 * s)) (uGz_1018 (b + s) (2 * s))
theorem uGz_1020 (b s : Nat) : xall (fun _ a => a ∈ lw_tbl) 8 b s Gz_1020 := And.intro (uGz_892 b (2 * s)) (uGz_1019 (b + s) (2 * s))
theorem uGz_1021 (b s : Nat) : xall (fun _ a => a ∈ lw_tbl) 9 b s Gz_1021 := And.intro (uGz_765 b (2 * s)) (uGz_1020 (b + s) (2 * s))
theorem uGz_1022 (b s : Nat) : xall (fun _ a => a ∈ lw_tbl) 10 b s Gz_1022 := And.intro (uGz_510 b (2 * s)) (uGz_1021 (b + s) (2 * s))
theorem uGz_1023 (b s : Nat) : xall (fun _ a => a ∈ lw_tbl) 1 b s Gz_1023 := And.intro uz_2 uz_2050
theorem uGz_1024 (b s : Nat) : xall (fun _ a => a ∈ lw_tbl) 1 b s Gz_1024 := And.intro uz_1026 uz_0
theorem uGz_1025 (b s : Nat) : xall (fun _ a => a ∈ lw_tbl) 2 b s Gz_1025 := And.intro (uGz_1023 b (2 * s)) (uGz_1024 (b + s) (2 * s))
theorem uGz_1026 (b s : Nat) : xall (fun _ a => a ∈ lw_tbl) 1 b s Gz_1026 := And.intro uz_514 uz_0
theorem uGz_1027 (b s : Nat) : xall (fun _ a => a ∈ lw_tbl) 1 b s Gz_1027 := And.intro uz_1538 uz_0
theorem uGz_1028 (b s : Nat) : xall (fun _ a => a ∈ lw_tbl) 2 b s Gz_1028 := And.intro (uGz_1026 b (2 * s)) (uGz_1027 (b + s) (2 * s))
theorem uGz_1029 (b s : Nat) : xall (fun _ a => a ∈ lw_tbl) 3 b s Gz_1029 := And.intro (uGz_1025 b (2 * s)) (uGz_1028 (b + s) (2 * s))
theorem uGz_1030 (b s : Nat) : xall (fun _ a => a ∈ lw_tbl) 1 b s Gz_1030 := And.intro uz_258 uz_0
theorem uGz_1031 (b s : Nat) : xall (fun _ a => a ∈ lw_tbl) 1 b s Gz_1031 := And.intro uz_1282 uz_0
theorem uGz_1032 (b s : Nat) : xall (fun _ a => a ∈ lw_tbl) 2 b s Gz_1032 := And.intro (uGz_1030 b (2 * s)) (uGz_1031 (b + s) (2 * s))
theorem uGz_1033 (b s : Nat) : xall (fun _ a => a ∈ lw_tbl) 1 b s Gz_1033 := And.intro uz_770 uz_0
theorem uGz_1034 (b s : Nat) : xall (fun _ a => a ∈ lw_tbl) 1 b s Gz_1034 := And.intro uz_1794 uz_0
theorem uGz_1035 (b s : Nat) : xall (fun _ a => a ∈ lw_tbl) 2 b s Gz_1035 := And.intro (uGz_1033 b (2 * s)) (uGz_1034 (b + s) (2 * s))
theorem uGz_1036 (b s : Nat) : xall (fun _ a => a ∈ lw_tbl) 3 b s Gz_1036 := And.intro (uGz_1032 b (2 * s)) (uGz_1035 (b + s) (2 * s))
theorem uGz_1037 (b s : Nat) : xall (fun _ a => a ∈ lw_tbl) 4 b s Gz_1037 := And.intro (uGz_1029 b (2 * s)) (uGz_1036 (b + s) (2 * s))
theorem uGz_1038 (b s : Nat) : xall (fun _ a => a ∈ lw_tbl) 1 b s Gz_1038 := And.intro uz_130 uz_2178
theorem uGz_1039 (b s : Nat) : xall (fun _ a => a ∈ lw_tbl) 1 b s Gz_1039 := And.intro uz_1154 uz_0
theorem uGz_1040 (b s : Nat) : xall (fun _ a => a ∈ lw_tbl) 2 b s Gz_1040 := And.intro (uGz_1038 b (2 * s)) (uGz_1039 (b + s) (2 * s))
theorem uGz_1041 (b s : Nat) : xall (fun _ a => a ∈ lw_tbl) 1 b s Gz_1041 := And.intro uz_642 uz_0
theorem uGz_1042 (b s : Nat) : xall (fun _ a => a ∈ lw_tbl) 1 b s Gz_1042 := And.intro uz_1666 uz_0
theorem uGz_1043 (b s : Nat) : xall (fun _ a => a ∈ lw_tbl) 2 b s Gz_1043 := And.intro (uGz_1041 b (2 * s)) (uGz_1042 (b + s) (2 * s))
theorem uGz_1044 (b s : Nat) : xall (fun _ a => a ∈ lw_tbl) 3 b s Gz_1044 := And.intro (uGz_1040 b (2 * s)) (uGz_1043 (b + s) (2 * s))
theorem uGz_1045 (b s : Nat) : xall (fun _ a => a ∈ lw_tbl) 1 b s Gz_1045 := And.intro uz_386 uz_0
theorem uGz_1046 (b s : Nat) : xall (fun _ a => a ∈ lw_tbl) 1 b s Gz_1046 := And.intro uz_1410 uz_0
theorem uGz_1047 (b s : Nat) : xall (fun _ a => a ∈ lw_tbl) 2 b s Gz_1047 := And.intro (uGz_1045 b (2 * s)) (uGz_1046 (b + s) (2 * s))
theorem uGz_1048 (b s : Nat) : xall (fun _ a => a ∈ lw_tbl) 1 b s Gz_1048 := And.intro uz_898 uz_0
theorem uGz_1049 (b s : Nat) : xall (fun _ a => a ∈ lw_tbl) 1 b s Gz_1049 := And.intro uz_1922 uz_0
theorem uGz_1050 (b s : Nat) : xall (fun _ a => a ∈ lw_tbl) 2 b s Gz_1050 := And.intro (uGz_1048 b (2 * s)) (uGz_1049 (b + s) (2 * s))
theorem uGz_1051 (b s : Nat) : xall (fun _ a => a ∈ lw_tbl) 3 b s Gz_1051 := And.intro (uGz_1047 b (2 * s)) (uGz_1050 (b + s) (2 * s))
theorem uGz_1052 (b s : Nat) : xall (fun _ a => a ∈ lw_tbl) 4 b s Gz_1052 := And.intro (uGz_1044 b (2 * s)) (uGz_1051 (b + s) (2 * s))
theorem uGz_1053 (b s : Nat) : xall (fun _ a => a ∈ lw_tbl) 5 b s Gz_1053 := And.intro (uGz_1037 b (2 * s)) (uGz_1052 (b + s) (2 * s))
theorem uGz_1054 (b s : Nat) : xall (fun _ a => a ∈ lw_tbl) 1 b s Gz_1054 := And.intro uz_66 uz_2114
theorem uGz_1055 (b s : Nat) : xall (fun _ a => a ∈ lw_tbl) 1 b s Gz_1055 := And.intro uz_1090 uz_0
theorem uGz_1056 (b s : Nat) : xall (fun _ a => a ∈ lw_tbl) 2 b s Gz_1056 := And.intro (uGz_1054 b (2 * s)) (uGz_1055 (b + s) (2 * s))
theorem uGz_1057 (b s : Nat) : xall (fun _ a => a ∈ lw_tbl) 1 b s Gz_1057 := And.intro uz_578 uz_0
theorem uGz_1058 (b s : Nat) : xall (fun _ a => a ∈ lw_tbl) 1 b s Gz_1058 := And.intro uz_1602 uz_0
theorem uGz_1059 (b s : Nat) : xall (fun _ a => a ∈ lw_tbl) 2 b s Gz_1059 := And.intro (uGz_1057 b (2 * s)) (uGz_1058 (b + s) (2 * s))
theorem uGz_1060 (b s : Nat) : xall (fun _ a => a ∈ lw_tbl) 3 b s Gz_1060 := And.intro (uGz_1056 b (2 * s)) (uGz_1059 (b + s) (2 * s))
theorem uGz_1061 (b s : Nat) : xall (fun _ a => a ∈ lw_tbl) 1 b s Gz_1061 := And.intro uz_322 uz_0
theorem uGz_1062 (b s : Nat) : xall (fun _ a => a ∈ lw_tbl) 1 b s Gz_1062 := And.intro uz_1346 uz_0
theorem uGz_1063 (b s : Nat) : xall (fun _ a => a ∈ lw_tbl) 2 b s Gz_1063 := And.intro (uGz_1061 b (2 * s)) (uGz_1062 (b + s) (2 * s))
theorem uGz_1064 (b s : Nat) : xall (fun _ a => a ∈ lw_tbl) 1 b s Gz_1064 := And.intro uz_834 uz_0
theorem uGz_1065 (b s : Nat) : xall (fun _ a => a ∈ lw_tbl) 1 b s Gz_1065 := And.intro uz_1858 uz_0
theorem uGz_1066 (b s : Nat) : xall (fun _ a => a ∈ lw_tbl) 2 b s Gz_1066 := And.intro (uGz_1064 b (2 * s)) (uGz_1065 (b + s) (2 * s))
theorem uGz_1067 (b s : Nat) : xall (fun _ a => a ∈ lw_tbl) 3 b s Gz_1067 := And.intro (uGz_1063 b (2 * s)) (uGz_1066 (b + s) (2 * s))
theorem uGz_1068 (b s : Nat) : xall (fun _ a => a ∈ lw_tbl) 4 b s Gz_1068 := And.intro (uGz_1060 b (2 * s)) (uGz_1067 (b + s) (2 * s))
theorem uGz_1069 (b s : Nat) : xall (fun _ a => a ∈ lw_tbl) 1 b s Gz_1069 := And.intro uz_194 uz_2242
theorem uGz_1070 (b s : Nat) : xall (fun _ a => a ∈ lw_tbl) 1 b s Gz_1070 := And.intro uz_1218 uz_0
theorem uGz_1071 (b s : Nat) : xall (fun _ a => a ∈ lw_tbl) 2 b s Gz_1071 := And.intro (uGz_1069 b (2 * s)) (uGz_1070 (b + s) (2 * s))
theorem uGz_1072 (b s : Nat) : xall (fun _ a => a ∈ lw_tbl) 1 b s Gz_1072 := And.intro uz_706 uz_0
theorem uGz_1073 (b s : Nat) : xall (fun _ a => a ∈ lw_tbl) 1 b s Gz_1073 := And.intro uz_1730 uz_0
theorem uGz_1074 (b s : Nat) : xall (fun _ a => a ∈ lw_tbl) 2 b s Gz_1074 := And.intro (uGz_1072 b (2 * s)) (uGz_1073 (b + s) (2 * s))
theorem uGz_1075 (b s : Nat) : xall (fun _ a => a ∈ lw_tbl) 3 b s Gz_1075 := And.intro (uGz_1071 b (2 * s)) (uGz_1074 (b + s) (2 * s))
theorem uGz_1076 (b s : Nat) : xall (fun _ a => a ∈ lw_tbl) 1 b s Gz_1076 := And.intro uz_450 uz_0
theorem uGz_1077 (b s : Nat) : xall (fun _ a => a ∈ lw_tbl) 1 b s Gz_1077 := And.intro uz_1474 uz_0
theorem uGz_1078 (b s : Nat) : xall (fun _ a => a ∈ lw_tbl) 2 b s Gz_1078 := And.intro (uGz_1076 b (2 * s)) (uGz_1077 (b + s) (2 * s))
theorem uGz_1079 (b s : Nat) : xall (fun _ a => a ∈ lw_tbl) 1 b s Gz_1079 := And.intro uz_962 uz_0
theorem uGz_1080 (b s : Nat) : xall (fun _ a => a ∈ lw_tbl) 1 b s Gz_1080 := And.intro uz_1986 uz_0
theorem uGz_1081 (b s : Nat) : xall (fun _ a => a ∈ lw_tbl) 2 b s Gz_1081 := And.intro (uGz_1079 b (2 * s)) (uGz_1080 (b + s) (2 * s))
theorem uGz_1082 (b s : Nat) : xall (fun _ a => a ∈ lw_tbl) 3 b s Gz_1082 := And.intro (uGz_1078 b (2 * s)) (uGz_1081 (b + s) (2 * s))
theorem uGz_1083 (b s : Nat) : xall (fun _ a => a ∈ lw_tbl) 4 b s Gz_1083 := And.intro (uGz_1075 b (2 * s)) (uGz_1082 (b + s) (2 * s))
theorem uGz_1084 (b s : Nat) : xall (fun _ a => a ∈ lw_tbl) 5 b s Gz_1084 := And.intro (uGz_1068 b (2 * s)) (uGz_1083 (b + s) (2 * s))
theorem uGz_1085 (b s : Nat) : xall (fun _ a => a ∈ lw_tbl) 6 b s Gz_1085 := And.intro (uGz_1053 b (2 * s)) (uGz_1084 (b + s) (2 * s))
theorem uGz_1086 (b s : Nat) : xall (fun _ a => a ∈ lw_tbl) 1 b s Gz_1086 := And.intro uz_34 uz_2082
theorem uGz_1087 (b s : Nat) : xall (fun _ a => a ∈ lw_tbl) 1 b s Gz_1087 := And.intro uz_1058 uz_0
theorem uGz_1088 (b s : Nat) : xall (fun _ a => a ∈ lw_tbl) 2 b s Gz_1088 := And.intro (uGz_1086 b (2 * s)) (uGz_1087 (b + s) (2 * s))
theorem uGz_1089 (b s : Nat) : xall (fun _ a => a ∈ lw_tbl) 1 b s Gz_1089 := And.intro uz_546 uz_0
theorem uGz_1090 (b s : Nat) : xall (fun _ a => a ∈ lw_tbl) 1 b s Gz_1090 := And.intro uz_1570 uz_0
theorem uGz_1091 (b s : Nat) : xall (fun _ a => a ∈ lw_tbl) 2 b s Gz_1091 := And.intro (uGz_1089 b (2 * s)) (uGz_1090 (b + s) (2 * s))
theorem uGz_1092 (b s : Nat) : xall (fun _ a => a ∈ lw_tbl) 3 b s Gz_1092 := And.intro (uGz_1088 b (2 * s)) (uGz_1091 (b + s) (2 * s))
theorem uGz_1093 (b s : Nat) : xall (fun _ a => a ∈ lw_tbl) 1 b s Gz_1093 := And.intro uz_290 uz_0
theorem uGz_1094 (b s : Nat) : xall (fun _ a => a ∈ lw_tbl) 1 b s Gz_1094 := And.intro uz_1314 uz_0
theorem uGz_1095 (b s : Nat) : xall (fun _ a => a ∈ lw_tbl) 2 b s Gz_1095 := And.intro (uGz_1093 b (2 * s)) (uGz_1094 (b + s) (2 * s))
theorem uGz_1096 (b s : Nat) : xall (fun _ a => a ∈ lw_tbl) 1 b s Gz_1096 := And.intro uz_802 uz_0
theorem uGz_1097 (b s : Nat) : xall (fun _ a => a ∈ lw_tbl) 1 b s Gz_1097 := And.intro uz_1826 uz_0
theorem uGz_1098 (b s : Nat) : xall (fun _ a => a ∈ lw_tbl) 2 b s Gz_1098 := And.intro (uGz_1096 b (2 * s)) (uGz_1097 (b + s) (2 * s))
theorem uGz_1099 (b s : Nat) : xall (fun _ a => a ∈ lw_tbl) 3 b s Gz_1099 := And.intro (uGz_1095 b (2 * s)) (uGz_1098 (b + s) (2 * s))
theorem uGz_1100 (b s : Nat) : xall (fun _ a => a ∈ lw_tbl) 4 b s Gz_1100 := And.intro (uGz_1092 b (2 * s)) (uGz_1099 (b + s) (2 * s))
theorem uGz_1101 (b s : Nat) : xall (fun _ a => a ∈ lw_tbl) 1 b s Gz_1101 := And.intro uz_162 uz_2210
theorem uGz_1102 (b s : Nat) : xall (fun _ a => a ∈ lw_tbl) 1 b s Gz_1102 := And.intro uz_1186 uz_0
theorem uGz_1103 (b s : Nat) : xall (fun _ a => a ∈ lw_tbl) 2 b s Gz_1103 := And.intro (uGz_1101 b (2 * s)) (uGz_1102 (b + s) (2 * s))
theorem uGz_1104 (b s : Nat) : xall (fun _ a => a ∈ lw_tbl) 1 b s Gz_1104 := And.intro uz_674 uz_0
theorem uGz_1105 (b s : Nat) : xall (fun _ a => a ∈ lw_tbl) 1 b s Gz_1105 := And.intro uz_1698 uz_0
theorem uGz_1106 (b s : Nat) : xall (fun _ a => a ∈ lw_tbl) 2 b s Gz_1106 := And.intro (uGz_1104 b (2 * s)) (uGz_1105 (b + s) (2 * s))
theorem uGz_1107 (b s : Nat) : xall (fun _ a => a ∈ lw_tbl) 3 b s Gz_1107 := And.intro (uGz_1103 b (2 * s)) (uGz_1106 (b + s) (2 * s))
theorem uGz_1108 (b s : Nat) : xall (fun _ a => a ∈ lw_tbl) 1 b s Gz_1108 := And.intro uz_418 uz_0
theorem uGz_1109 (b s : Nat) : xall (fun _ a => a ∈ lw_tbl) 1 b s Gz_1109 := And.intro uz_1442 uz_0
theorem uGz_1110 (b s : Nat) : xall (fun _ a => a ∈ lw_tbl) 2 b s Gz_1110 := And.intro (uGz_1108 b (2 * s)) (uGz_1109 (b + s) (2 * s))
theorem uGz_1111 (b s : Nat) : xall (fun _ a => a ∈ lw_tbl) 1 b s Gz_1111 := And.intro uz_930 uz_0
theorem uGz_1112 (b s : Nat) : xall (fun _ a => a ∈ lw_tbl) 1 b s Gz_1112 := And.intro uz_1954 uz_0
theorem uGz_1113 (b s : Nat) : xall (fun _ a => a ∈ lw_tbl) 2 b s Gz_1113 := And.intro (uGz_1111 b (2 * s)) (uGz_1112 (b + s) (2 * s))
theorem uGz_1114 (b s : Nat) : xall (fun _ a => a ∈ lw_tbl) 3 b s Gz_1114 := And.intro (uGz_1110 b (2 * s)) (uGz_1113 (b + s) (2 * s))
theorem uGz_1115 (b s : Nat) : xall (fun _ a => a ∈ lw_tbl) 4 b s Gz_1115 := And.intro (uGz_1107 b (2 * s)) (uGz_1114 (b + s) (2 * s))
theorem uGz_1116 (b s : Nat) : xall (fun _ a => a ∈ lw_tbl) 5 b s Gz_1116 := And.intro (uGz_1100 b (2 * s)) (uGz_1115 (b + s) (2 * s))
theorem uGz_1117 (b s : Nat) : xall (fun _ a => a ∈ lw_tbl) 1 b s Gz_1117 := And.intro uz_98 uz_2146
theorem uGz_1118 (b s : Nat) : xall (fun _ a => a ∈ lw_tbl) 1 b s Gz_1118 := And.intro uz_1122 uz_0
theorem uGz_1119 (b s : Nat) : xall (fun _ a => a ∈ lw_tbl) 2 b s Gz_1119 := And.intro (uGz_1117 b (2 * s)) (uGz_1118 (b + s) (2 * s))
theorem uGz_1120 (b s : Nat) : xall (fun _ a => a ∈ lw_tbl) 1 b s Gz_1120 := And.intro uz_610 uz_0
theorem uGz_1121 (b s : Nat) : xall (fun _ a => a ∈ lw_tbl) 1 b s Gz_1121 := And.intro uz_1634 uz_0
theorem uGz_1122 (b s : Nat) : xall (fun _ a => a ∈ lw_tbl) 2 b s Gz_1122 := And.intro (uGz_1120 b (2 * s)) (uGz_1121 (b + s) (2 * s))
theorem uGz_1123 (b s : Nat) : xall (fun _ a => a ∈ lw_tbl) 3 b s Gz_1123 := And.intro (uGz_1119 b (2 * s)) (uGz_1122 (b + s) (2 * s))
theorem uGz_1124 (b s : Nat) : xall (fun _ a => a ∈ lw_tbl) 1 b s Gz_1124 := And.intro uz_354 uz_0
theorem uGz_1125 (b s : Nat) : xall (fun _ a => a ∈ lw_tbl) 1 b s Gz_1125 := And.intro uz_1378 uz_0
theorem uGz_1126 (b s : Nat) : xall (fun _ a => a ∈ lw_tbl) 2 b s Gz_1126 := And.intro (uGz_1124 b (2 * s)) (uGz_1125 (b + s) (2 * s))
theorem uGz_1127 (b s : Nat) : xall (fun _ a => a ∈ lw_tbl) 1 b s Gz_1127 := And.intro uz_866 uz_0
theorem uGz_1128 (b s : Nat) : xall (fun _ a => a ∈ lw_tbl) 1 b s Gz_1128 := And.intro uz_1890 uz_0
theorem uGz_1129 (b s : Nat) : xall (fun _ a => a ∈ lw_tbl) 2 b s Gz_1129 := And.intro (uGz_1127 b (2 * s)) (uGz_1128 (b + s) (2 * s))
theorem uGz_1130 (b s : Nat) : xall (fun _ a => a ∈ lw_tbl) 3 b s Gz_1130 := And.intro (uGz_1126 b (2 * s)) (uGz_1129 (b + s) (2 * s))
theorem uGz_1131 (b s : Nat) : xall (fun _ a => a ∈ lw_tbl) 4 b s Gz_1131 := And.intro (uGz_1123 b (2 * s)) (uGz_1130 (b + s) (2 * s))
theorem uGz_1132 (b s : Nat) : xall (fun _ a => a ∈ lw_tbl) 1 b s Gz_1132 := And.intro uz_226 uz_0
theorem uGz_1133 (b s : Nat) : xall (fun _ a => a ∈ lw_tbl) 1 b s Gz_1133 := And.intro uz_1250 uz_0
theorem uGz_1134 (b s : Nat) : xall (fun _ a => a ∈ lw_tbl) 2 b s Gz_1134 := And.intro (uGz_1132 b (2 * s)) (uGz_1133 (b + s) (2 * s))
theorem uGz_1135 (b s : Nat) : xall (fun _ a => a ∈ lw_tbl) 1 b s Gz_1135 := And.intro uz_738 uz_0
theorem uGz_1136 (b s : Nat) : xall (fun _ a => a ∈ lw_tbl) 1 b s Gz_1136 := And.intro uz_1762 uz_0
theorem uGz_1137 (b s : Nat) : xall (fun _ a => a ∈ lw_tbl) 2 b s Gz_1137 := And.intro (uGz_1135 b (2 * s)) (uGz_1136 (b + s) (2 * s))
theorem uGz_1138 (b s : Nat) : xall (fun _ a => a ∈ lw_tbl) 3 b s Gz_1138 := And.intro (uGz_1134 b (2 * s)) (uGz_1137 (b + s) (2 * s))
theorem uGz_1139 (b s : Nat) : xall (fun _ a => a ∈ lw_tbl) 1 b s Gz_1139 := And.intro uz_482 uz_0
theorem uGz_1140 (b s : Nat) : xall (fun _ a => a ∈ lw_tbl) 1 b s Gz_1140 := And.intro uz_1506 uz_0
theorem uGz_1141 (b s : Nat) : xall (fun _ a => a ∈ lw_tbl) 2 b s Gz_1141 := And.intro (uGz_1139 b (2 * s)) (uGz_1140 (b + s) (2 * s))
theorem uGz_1142 (b s : Nat) : xall (fun _ a => a ∈ lw_tbl) 1 b s Gz_1142 := And.intro uz_994 uz_0
theorem uGz_1143 (b s : Nat) : xall (fun _ a => a ∈ lw_tbl) 1 b s Gz_1143 := And.intro uz_2018 uz_0
theorem uGz_1144 (b s : Nat) : xall (fun _ a => a ∈ lw_tbl) 2 b s Gz_1144 := And.intro (uGz_1142 b (2 * s)) (uGz_1143 (b + s) (2 * s))
theorem uGz_1145 (b s : Nat) : xall (fun _ a => a ∈ lw_tbl) 3 b s Gz_1145 := And.intro (uGz_1141 b (2 * s)) (uGz_1144 (b + s) (2 * s))
theorem uGz_1146 (b s : Nat) : xall (fun _ a => a ∈ lw_tbl) 4 b s Gz_1146 := And.intro (uGz_1138 b (2 * s)) (uGz_1145 (b + s) (2 * s))
theorem uGz_1147 (b s : Nat) : xall (fun _ a => a ∈ lw_tbl) 5 b s Gz_1147 := And.intro (uGz_1131 b (2 * s)) (uGz_1146 (b + s) (2 * s))
theorem uGz_1148 (b s : Nat) : xall (fun _ a => a ∈ lw_tbl) 6 b s Gz_1148 := And.intro (uGz_1116 b (2 * s)) (uGz_1147 (b + s) (2 * s))
theorem uGz_1149 (b s : Nat) : xall (fun _ a => a ∈ lw_tbl) 7 b s Gz_1149 := And.intro (uGz_1085 b (2 * s)) (uGz_1148 (b + s) (2 * s))
theorem uGz_1150 (b s : Nat) : xall (fun _ a => a ∈ lw_tbl) 1 b s Gz_1150 := And.intro uz_18 uz_2066
theorem uGz_1151 (b s : Nat) : xall (fun _ a => a ∈ lw_tbl) 1 b s Gz_1151 := And.intro uz_1042 uz_0
theorem uGz_1152 (b s : Nat) : xall (fun _ a => a ∈ lw_tbl) 2 b s Gz_1152 := And.intro (uGz_1150 b (2 * s)) (uGz_1151 (b + s) (2 * s))
theorem uGz_1153 (b s : Nat) : xall (fun _ a => a ∈ lw_tbl) 1 b s Gz_1153 := And.intro uz_530 uz_0
theorem uGz_1154 (b s : Nat) : xall (fun _ a => a ∈ lw_tbl) 1 b s Gz_1154 := And.intro uz_1554 uz_0
theorem uGz_1155 (b s : Nat) : xall (fun _ a => a ∈ lw_tbl) 2 b s Gz_1155 := And.intro (uGz_1153 b (2 * s)) (uGz_1154 (b + s) (2 * s))
theorem uGz_1156 (b s : Nat) : xall (fun _ a => a ∈ lw_tbl) 3 b s Gz_1156 := And.intro (uGz_1152 b (2 * s)) (uGz_1155 (b + s) (2 * s))
theorem uGz_1157 (b s : Nat) : xall (fun _ a => a ∈ lw_tbl) 1 b s Gz_1157 := And.intro uz_274 uz_0
theorem uGz_1158 (b s : Nat) : xall (fun _ a => a ∈ lw_tbl) 1 b s Gz_1158 := And.intro uz_1298 uz_0
theorem uGz_1159 (b s : Nat) : xall (fun _ a => a ∈ lw_tbl) 2 b s Gz_1159 := And.intro (uGz_1157 b (2 * s)) (uGz_1158 (b + s) (2 * s))
theorem uGz_1160 (b s : Nat) : xall (fun _ a => a ∈ lw_tbl) 1 b s Gz_1160 := And.intro uz_786 uz_0
theorem uGz_1161 (b s : Nat) : xall (fun _ a => a ∈ lw_tbl) 1 b s Gz_1161 := And.intro uz_1810 uz_0
theorem uGz_1162 (b s : Nat) : xall (fun _ a => a ∈ lw_tbl) 2 b s Gz_1162 := And.intro (uGz_1160 b (2 * s)) (uGz_1161 (b + s) (2 * s))
theorem uGz_1163 (b s : Nat) : xall (fun _ a => a ∈ lw_tbl) 3 b s Gz_1163 := And.intro (uGz_1159 b (2 * s)) (uGz_1162 (b + s) (2 * s))
theorem uGz_1164 (b s : Nat) : xall (fun _ a => a ∈ lw_tbl) 4 b s Gz_1164 := And.intro (uGz_1156 b (2 * s)) (uGz_1163 (b + s) (2 * s))
theorem uGz_1165 (b s : Nat) : xall (fun _ a => a ∈ lw_tbl) 1 b s Gz_1165 := And.intro uz_146 uz_2194
theorem uGz_1166 (b s : Nat) : xall (fun _ a => a ∈ lw_tbl) 1 b s Gz_1166 := And.intro uz_1170 uz_0
theorem uGz_1167 (b s : Nat) : xall (fun _ a => a ∈ lw_tbl) 2 b s Gz_1167 := And.intro (uGz_1165 b (2 * s)) (uGz_1166 (b + s) (2 * s))
theorem uGz_1168 (b s : Nat) : xall (fun _ a => a ∈ lw_tbl) 1 b s Gz_1168 := And.intro uz_658 uz_0
theorem uGz_1169 (b s : Nat) : xall (fun _ a => a ∈ lw_tbl) 1 b s Gz_1169 := And.intro uz_1682 uz_0
theorem uGz_1170 (b s : Nat) : xall (fun _ a => a ∈ lw_tbl) 2 b s Gz_1170 := And.intro (uGz_1168 b (2 * s)) (uGz_1169 (b + s) (2 * s))
theorem uGz_1171 (b s : Nat) : xall (fun _ a => a ∈ lw_tbl) 3 b s Gz_1171 := And.intro (uGz_1167 b (2 * s)) (uGz_1170 (b + s) (2 * s))
theorem uGz_1172 (b s : Nat) : xall (fun _ a => a ∈ lw_tbl) 1 b s Gz_1172 := And.intro uz_402 uz_0
theorem uGz_1173 (b s : Nat) : xall (fun _ a => a ∈ lw_tbl) 1 b s Gz_1173 := And.intro uz_1426 uz_0
theorem uGz_1174 (b s : Nat) : xall (fun _ a => a ∈ lw_tbl) 2 b s Gz_1174 := And.intro (uGz_1172 b (2 * s)) (uGz_1173 (b + s) (2 * s))
theorem uGz_1175 (b s : Nat) : xall (fun _ a => a ∈ lw_tbl) 1 b s Gz_1175 := And.intro uz_914 uz_0
theorem uGz_1176 (b s : Nat) : xall (fun _ a => a ∈ lw_tbl) 1 b s Gz_1176 := And.intro uz_1938 uz_0
theorem uGz_1177 (b s : Nat) : xall (fun _ a => a ∈ lw_tbl) 2 b s Gz_1177 := And.intro (uGz_1175 b (2 * s)) (uGz_1176 (b + s) (2 * s))
theorem uGz_1178 (b s : Nat) : xall (fun _ a => a ∈ lw_tbl) 3 b s Gz_1178 := And.intro (uGz_1174 b (2 * s)) (uGz_1177 (b + s) (2 * s))
theorem uGz_1179 (b s : Nat) : xall (fun _ a => a ∈ lw_tbl) 4 b s Gz_1179 := And.intro (uGz_1171 b (2 * s)) (uGz_1178 (b + s) (2 * s))
theorem uGz_1180 (b s : Nat) : xall (fun _ a => a ∈ lw_tbl) 5 b s Gz_1180 := And.intro (uGz_1164 b (2 * s)) (uGz_1179 (b + s) (2 * s))
theorem uGz_1181 (b s : Nat) : xall (fun _ a => a ∈ lw_tbl) 1 b s Gz_1181 := And.intro uz_82 uz_2130
theorem uGz_1182 (b s : Nat) : xall (fun _ a => a ∈ lw_tbl) 1 b s Gz_1182 := And.intro uz_1106 uz_0
theorem uGz_1183 (b s : Nat) : xall (fun _ a => a ∈ lw_tbl) 2 b s Gz_1183 := And.intro (uGz_1181 b (2 * s)) (uGz_1182 (b + s) (2 * s))
theorem uGz_1184 (b s : Nat) : xall (fun _ a => a ∈ lw_tbl) 1 b s Gz_1184 := And.intro uz_594 uz_0
theorem uGz_1185 (b s : Nat) : xall (fun _ a => a ∈ lw_tbl) 1 b s Gz_1185 := And.intro uz_1618 uz_0
theorem uGz_1186 (b s : Nat) : xall (fun _ a => a ∈ lw_tbl) 2 b s Gz_1186 := And.intro (uGz_1184 b (2 * s)) (uGz_1185 (b + s) (2 * s))
theorem uGz_1187 (b s : Nat) : xall (fun _ a => a ∈ lw_tbl) 3 b s Gz_1187 := And.intro (uGz_1183 b (2 * s)) (uGz_1186 (b + s) (2 * s))
theorem uGz_1188 (b s : Nat) : xall (fun _ a => a ∈ lw_tbl) 1 b s Gz_1188 := And.intro uz_338 uz_0
theorem uGz_1189 (b s : Nat) : xall (fun _ a => a ∈ lw_tbl) 1 b s Gz_1189 := And.intro uz_1362 uz_0
theorem uGz_1190 (b s : Nat) : xall (fun _ a => a ∈ lw_tbl) 2 b s Gz_1190 := And.intro (uGz_1188 b (2 * s)) (uGz_1189 (b + s) (2 * s))
theorem uGz_1191 (b s : Nat) : xall (fun _ a => a ∈ lw_tbl) 1 b s Gz_1191 := And.intro uz_850 uz_0
theorem uGz_1192 (b s : Nat) : xall (fun _ a => a ∈ lw_tbl) 1 b s Gz_1192 := And.intro uz_1874 uz_0
theorem uGz_1193 (b s : Nat) : xall (fun _ a => a ∈ lw_tbl) 2 b s Gz_1193 := And.intro (uGz_1191 b (2 * s)) (uGz_1192 (b + s) (2 * s))
theorem uGz_1194 (b s : Nat) : xall (fun _ a => a ∈ lw_tbl) 3 b s Gz_1194 := And.intro (uGz_1190 b (2 * s)) (uGz_1193 (b + s) (2 * s))
theorem uGz_1195 (b s : Nat) : xall (fun _ a => a ∈ lw_tbl) 4 b s Gz_1195 := And.intro (uGz_1187 b (2 * s)) (uGz_1194 (b + s) (2 * s))
theorem uGz_1196 (b s : Nat) : xall (fun _ a => a ∈ lw_tbl) 1 b s Gz_1196 := And.intro uz_210 uz_2258
theorem uGz_1197 (b s : Nat) : xall (fun _ a => a ∈ lw_tbl) 1 b s Gz_1197 := And.intro uz_1234 uz_0
theorem uGz_1198 (b s : Nat) : xall (fun _ a => a ∈ lw_tbl) 2 b s Gz_1198 := And.intro (uGz_1196 b (2 * s)) (uGz_1197 (b + s) (2 * s))
theorem uGz_1199 (b s : Nat) : xall (fun _ a => a ∈ lw_tbl) 1 b s Gz_1199 := And.intro uz_722 uz_0
theorem uGz_1200 (b s : Nat) : xall (fun _ a => a ∈ lw_tbl) 1 b s Gz_1200 := And.intro uz_1746 uz_0
theorem uGz_1201 (b s : Nat) : xall (fun _ a => a ∈ lw_tbl) 2 b s Gz_1201 := And.intro (uGz_1199 b (2 * s)) (uGz_1200 (b + s) (2 * s))
theorem uGz_1202 (b s : Nat) : xall (fun _ a => a ∈ lw_tbl) 3 b s Gz_1202 := And.intro (uGz_1198 b (2 * s)) (uGz_1201 (b + s) (2 * s))
theorem uGz_1203 (b s : Nat) : xall (fun _ a => a ∈ lw_tbl) 1 b s Gz_1203 := And.intro uz_466 uz_0
theorem uGz_1204 (b s : Nat) : xall (fun _ a => a ∈ lw_tbl) 1 b s Gz_1204 := And.intro uz_1490 uz_0
theorem uGz_1205 (b s : Nat) : xall (fun _ a => a ∈ lw_tbl) 2 b s Gz_1205 := And.intro (uGz_1203 b (2 * s)) (uGz_1204 (b + s) (2 * s))
theorem uGz_1206 (b s : Nat) : xall (fun _ a => a ∈ lw_tbl) 1 b s Gz_1206 := And.intro uz_978 uz_0
theorem uGz_1207 (b s : Nat) : xall (fun _ a => a ∈ lw_tbl) 1 b s Gz_1207 := And.intro uz_2002 uz_0
theorem uGz_1208 (b s : Nat) : xall (fun _ a => a ∈ lw_tbl) 2 b s Gz_1208 := And.intro (uGz_1206 b (2 * s)) (uGz_1207 (b + s) (2 * s))
theorem uGz_1209 (b s : Nat) : xall (fun _ a => a ∈ lw_tbl) 3 b s Gz_1209 := And.intro (uGz_1205 b (2 * s)) (uGz_1208 (b + s) (2 * s))
theorem uGz_1210 (b s : Nat) : xall (fun _ a => a ∈ lw_tbl) 4 b s Gz_1210 := And.intro (uGz_1202 b (2 * s)) (uGz_1209 (b + s) (2 * s))
theorem uGz_1211 (b s : Nat) : xall (fun _ a => a ∈ lw_tbl) 5 b s Gz_1211 := And.intro (uGz_1195 b (2 * s)) (uGz_1210 (b + s) (2 * s))
theorem uGz_1212 (b s : Nat) : xall (fun _ a => a ∈ lw_tbl) 6 b s Gz_1212 := And.intro (uGz_1180 b (2 * s)) (uGz_1211 (b + s) (2 * s))
theorem uGz_1213 (b s : Nat) : xall (fun _ a => a ∈ lw_tbl) 1 b s Gz_1213 := And.intro uz_50 uz_2098
theorem uGz_1214 (b s : Nat) : xall (fun _ a => a ∈ lw_tbl) 1 b s Gz_1214 := And.intro uz_1074 uz_0
theorem uGz_1215 (b s : Nat) : xall (fun _ a => a ∈ lw_tbl) 2 b s Gz_1215 := And.intro (uGz_1213 b (2 * s)) (uGz_1214 (b + s) (2 * s))
theorem uGz_1216 (b s : Nat) : xall (fun _ a => a ∈ lw_tbl) 1 b s Gz_1216 := And.intro uz_562 uz_0
theorem uGz_1217 (b s : Nat) : xall (fun _ a => a ∈ lw_tbl) 1 b s Gz_1217 := And.intro uz_1586 uz_0
theorem uGz_1218 (b s : Nat) : xall (fun _ a => a ∈ lw_tbl) 2 b s Gz_1218 := And.intro (uGz_1216 b (2 * s)) (uGz_1217 (b + s) (2 * s))
theorem uGz_1219 (b s : Nat) : xall (fun _ a => a ∈ lw_tbl) 3 b s Gz_1219 := And.intro (uGz_1215 b (2 * s)) (uGz_1218 (b + s) (2 * s))
theorem uGz_1220 (b s : Nat) : xall (fun _ a => a ∈ lw_tbl) 1 b s Gz_1220 := And.intro uz_306 uz_0
theorem uGz_1221 (b s : Nat) : xall (fun _ a => a ∈ lw_tbl) 1 b s Gz_1221 := And.intro uz_1330 uz_0
theorem uGz_1222 (b s : Nat) : xall (fun _ a => a ∈ lw_tbl) 2 b s Gz_1222 := And.intro (uGz_1220 b (2 * s)) (uGz_1221 (b + s) (2 * s))
theorem uGz_1223 (b s : Nat) : xall (fun _ a => a ∈ lw_tbl) 1 b s Gz_1223 := And.intro uz_818 uz_0
theorem uGz_1224 (b s : Nat) : xall (fun _ a => a ∈ lw_tbl) 1 b s Gz_1224 := And.intro uz_1842 uz_0
theorem uGz_1225 (b s : Nat) : xall (fun _ a => a ∈ lw_tbl) 2 b s Gz_1225 := And.intro (uGz_1223 b (2 * s)) (uGz_1224 (b + s) (2 * s))
theorem uGz_1226 (b s : Nat) : xall (fun _ a => a ∈ lw_tbl) 3 b s Gz_1226 := And.intro (uGz_1222 b (2 * s)) (uGz_1225 (b + s) (2 * s))
theorem uGz_1227 (b s : Nat) : xall (fun _ a => a ∈ lw_tbl) 4 b s Gz_1227 := And.intro (uGz_1219 b (2 * s)) (uGz_1226 (b + s) (2 * s))
theorem uGz_1228 (b s : Nat) : xall (fun _ a => a ∈ lw_tbl) 1 b s Gz_1228 := And.intro uz_178 uz_2226
theorem uGz_1229 (b s : Nat) : xall (fun _ a => a ∈ lw_tbl) 1 b s Gz_1229 := And.intro uz_1202 uz_0
theorem uGz_1230 (b s : Nat) : xall (fun _ a => a ∈ lw_tbl) 2 b s Gz_1230 := And.intro (uGz_1228 b (2 * s)) (uGz_1229 (b + s) (2 * s))
theorem uGz_1231 (b s : Nat) : xall (fun _ a => a ∈ lw_tbl) 1 b s Gz_1231 := And.intro uz_690 uz_0
theorem uGz_1232 (b s : Nat) : xall (fun _ a => a ∈ lw_tbl) 1 b s Gz_1232 := And.intro uz_1714 uz_0
theorem uGz_1233 (b s : Nat) : xall (fun _ a => a ∈ lw_tbl) 2 b s Gz_1233 := And.intro (uGz_1231 b (2 * s)) (uGz_1232 (b + s) (2 * s))
theorem uGz_1234 (b s : Nat) : xall (fun _ a => a ∈ lw_tbl) 3 b s Gz_1234 := And.intro (uGz_1230 b (2 * s)) (uGz_1233 (b + s) (2 * s))
theorem uGz_1235 (b s : Nat) : xall (fun _ a => a ∈ lw_tbl) 1 b s Gz_1235 := And.intro uz_434 uz_0
theorem uGz_1236 (b s : Nat) : xall (fun _ a => a ∈ lw_tbl) 1 b s Gz_1236 := And.intro uz_1458 uz_0
theorem uGz_1237 (b s : Nat) : xall (fun _ a => a ∈ lw_tbl) 2 b s Gz_1237 := And.intro (uGz_1235 b (2 * s)) (uGz_1236 (b + s) (2 * s))
theorem uGz_1238 (b s : Nat) : xall (fun _ a => a ∈ lw_tbl) 1 b s Gz_1238 := And.intro uz_946 uz_0
theorem uGz_1239 (b s : Nat) : xall (fun _ a => a ∈ lw_tbl) 1 b s Gz_1239 := And.intro uz_1970 uz_0
theorem uGz_1240 (b s : Nat) : xall (fun _ a => a ∈ lw_tbl) 2 b s Gz_1240 := And.intro (uGz_1238 b (2 * s)) (uGz_1239 (b + s) (2 * s))
theorem uGz_1241 (b s : Nat) : xall (fun _ a => a ∈ lw_tbl) 3 b s Gz_1241 := And.intro (uGz_1237 b (2 * s)) (uGz_1240 (b + s) (2 * s))
theorem uGz_1242 (b s : Nat) : xall (fun _ a => a ∈ lw_tbl) 4 b s Gz_1242 := And.intro (uGz_1234 b (2 * s)) (uGz_1241 (b + s) (2 * s))
theorem uGz_1243 (b s : Nat) : xall (fun _ a => a ∈ lw_tbl) 5 b s Gz_1243 := And.intro (uGz_1227 b (2 * s)) (uGz_1242 (b + s) (2 * s))
theorem uGz_1244 (b s : Nat) : xall (fun _ a => a ∈ lw_tbl) 1 b s Gz_1244 := And.intro uz_114 uz_2162
theorem uGz_1245 (b s : Nat) : xall (fun _ a => a ∈ lw_tbl) 1 b s Gz_1245 := And.intro uz_1138 uz_0
theorem uGz_1246 (b s : Nat) : xall (fun _ a => a ∈ lw_tbl) 2 b s Gz_1246 := And.intro (uGz_1244 b (2 * s)) (uGz_1245 (b + s) (2 * s))
theorem uGz_1247 (b s : Nat) : xall (fun _ a => a ∈ lw_tbl) 1 b s Gz_1247 := And.intro uz_626 uz_0
theorem uGz_1248 (b s : Nat) : xall (fun _ a => a ∈ lw_tbl) 1 b s Gz_1248 := And.intro uz_1650 uz_0
theorem uGz_1249 (b s : Nat) : xall (fun _ a => a ∈ lw_tbl) 2 b s Gz_1249 := And.intro (uGz_1247 b (2 * s)) (uGz_1248 (b + s) (2 * s))
theorem uGz_1250 (b s : Nat) : xall (fun _ a => a ∈ lw_tbl) 3 b s Gz_1250 := And.intro (uGz_1246 b (2 * s)) (uGz_1249 (b + s) (2 * s))
theorem uGz_1251 (b s : Nat) : xall (fun _ a => a ∈ lw_tbl) 1 b s Gz_1251 := And.intro uz_370 uz_0
theorem uGz_1252 (b s : Nat) : xall (fun _ a => a ∈ lw_tbl) 1 b s Gz_1252 := And.intro uz_1394 uz_0
theorem uGz_1253 (b s : Nat) : xall (fun _ a => a ∈ lw_tbl) 2 b s Gz_1253 := And.intro (uGz_1251 b (2 * s)) (uGz_1252 (b + s) (2 * s))
theorem uGz_1254 (b s : Nat) : xall (fun _ a => a ∈ lw_tbl) 1 b s Gz_1254 := And.intro uz_882 uz_0
theorem uGz_1255 (b s : Nat) : xall (fun _ a => a ∈ lw_tbl) 1 b s Gz_1255 := And.intro uz_1906 uz_0
theorem uGz_1256 (b s : Nat) : xall (fun _ a => a ∈ lw_tbl) 2 b s Gz_1256 := And.intro (uGz_1254 b (2 * s)) (uGz_1255 (b + s) (2 * s))
theorem uGz_1257 (b s : Nat) : xall (fun _ a => a ∈ lw_tbl) 3 b s Gz_1257 := And.intro (uGz_1253 b (2 * s)) (uGz_1256 (b + s) (2 * s))
theorem uGz_1258 (b s : Nat) : xall (fun _ a => a ∈ lw_tbl) 4 b s Gz_1258 := And.intro (uGz_1250 b (2 * s)) (uGz_1257 (b + s) (2 * s))
theorem uGz_1259 (b s : Nat) : xall (fun _ a => a ∈ lw_tbl) 1 b s Gz_1259 := And.intro uz_242 uz_0
theorem uGz_1260 (b s : Nat) : xall (fun _ a => a ∈ lw_tbl) 1 b s Gz_1260 := And.intro uz_1266 uz_0
theorem uGz_1261 (b s : Nat) : xall (fun _ a => a ∈ lw_tbl) 2 b s Gz_1261 := And.intro (uGz_1259 b (2 * s)) (uGz_1260 (b + s) (2 * s))
theorem uGz_1262 (b s : Nat) : xall (fun _ a => a ∈ lw_tbl) 1 b s Gz_1262 := And.intro uz_754 uz_0
theorem uGz_1263 (b s : Nat) : xall (fun _ a => a ∈ lw_tbl) 1 b s Gz_1263 := And.intro uz_1778 uz_0
theorem uGz_1264 (b s : Nat) : xall (fun _ a => a ∈ lw_tbl) 2 b s Gz_1264 := And.intro (uGz_1262 b (2 * s)) (uGz_1263 (b + s) (2 * s))
theorem uGz_1265 (b s : Nat) : xall (fun _ a => a ∈ lw_tbl) 3 b s Gz_1265 := And.intro (uGz_1261 b (2 * s)) (uGz_1264 (b + s) (2 * s))
theorem uGz_1266 (b s : Nat) : xall (fun _ a => a ∈ lw_tbl) 1 b s Gz_1266 := And.intro uz_498 uz_0
theorem uGz_1267 (b s : Nat) : xall (fun _ a => a ∈ lw_tbl) 1 b s Gz_1267 := And.intro uz_1522 uz_0
theorem uGz_1268 (b s : Nat) : xall (fun _ a => a ∈ lw_tbl) 2 b s Gz_1268 := And.intro (uGz_1266 b (2 * s)) (uGz_1267 (b + s) (2 * s))
theorem uGz_1269 (b s : Nat) : xall (fun _ a => a ∈ lw_tbl) 1 b s Gz_1269 := And.intro uz_1010 uz_0
theorem uGz_1270 (b s : Nat) : xall (fun _ a => a ∈ lw_tbl) 1 b s Gz_1270 := And.intro uz_2034 uz_0
theorem uGz_1271 (b s : Nat) : xall (fun _ a => a ∈ lw_tbl) 2 b s Gz_1271 := And.intro (uGz_1269 b (2 * s)) (uGz_1270 (b + s) (2 * s))
theorem uGz_1272 (b s : Nat) : xall (fun _ a => a ∈ lw_tbl) 3 b s Gz_1272 := And.intro (uGz_1268 b (2 * s)) (uGz_1271 (b + s) (2 * s))
theorem uGz_1273 (b s : Nat) : xall (fun _ a => a ∈ lw_tbl) 4 b s Gz_1273 := And.intro (uGz_1265 b (2 * s)) (uGz_1272 (b + s) (2 * s))
theorem uGz_1274 (b s : Nat) : xall (fun _ a => a ∈ lw_tbl) 5 b s Gz_1274 := And.intro (uGz_1258 b (2 * s)) (uGz_1273 (b + s) (2 * s))
theorem uGz_1275 (b s : Nat) : xall (fun _ a => a ∈ lw_tbl) 6 b s Gz_1275 := And.intro (uGz_1243 b (2 * s)) (uGz_1274 (b + s) (2 * s))
theorem uGz_1276 (b s : Nat) : xall (fun _ a => a ∈ lw_tbl) 7 b s Gz_1276 := And.intro (uGz_1212 b (2 * s)) (uGz_1275 (b + s) (2 * s))
theorem uGz_1277 (b s : Nat) : xall (fun _ a => a ∈ lw_tbl) 8 b s Gz_1277 := And.intro (uGz_1149 b (2 * s)) (uGz_1276 (b + s) (2 * s))
theorem uGz_1278 (b s : Nat) : xall (fun _ a => a ∈ lw_tbl) 1 b s Gz_1278 := And.intro uz_10 uz_2058
theorem uGz_1279 (b s : Nat) : xall (fun _ a => a ∈ lw_tbl) 1 b s Gz_1279 := And.intro uz_1034 uz_0
theorem uGz_1280 (b s : Nat) : xall (fun _ a => a ∈ lw_tbl) 2 b s Gz_1280 := And.intro (uGz_1278 b (2 * s)) (uGz_1279 (b + s) (2 * s))
theorem uGz_1281 (b s : Nat) : xall (fun _ a => a ∈ lw_tbl) 1 b s Gz_1281 := And.intro uz_522 uz_0
theorem uGz_1282 (b s : Nat) : xall (fun _ a => a ∈ lw_tbl) 1 b s Gz_1282 := And.intro uz_1546 uz_0
theorem uGz_1283 (b s : Nat) : xall (fun _ a => a ∈ lw_tbl) 2 b s Gz_1283 := And.intro (uGz_1281 b (2 * s)) (uGz_1282 (b + s) (2 * s))
theorem uGz_1284 (b s : Nat) : xall (fun _ a => a ∈ lw_tbl) 3 b s Gz_1284 := And.intro (uGz_1280 b (2 * s)) (uGz_1283 (b + s) (2 * s))
theorem uGz_1285 (b s : Nat) : xall (fun _ a => a ∈ lw_tbl) 1 b s Gz_1285 := And.intro uz_266 uz_0
theorem uGz_1286 (b s : Nat) : xall (fun _ a => a ∈ lw_tbl) 1 b s Gz_1286 := And.intro uz_1290 uz_0
theorem uGz_1287 (b s : Nat) : xall (fun _ a => a ∈ lw_tbl) 2 b s Gz_1287 := And.intro (uGz_1285 b (2 * s)) (uGz_1286 (b + s) (2 * s))
theorem uGz_1288 (b s : Nat) : xall (fun _ a => a ∈ lw_tbl) 1 b s Gz_1288 := And.intro uz_778 uz_0
theorem uGz_1289 (b s : Nat) : xall (fun _ a => a ∈ lw_tbl) 1 b s Gz_1289 := And.intro uz_1802 uz_0
theorem uGz_1290 (b s : Nat) : xall (fun _ a => a ∈ lw_tbl) 2 b s Gz_1290 := And.intro (uGz_1288 b (2 * s)) (uGz_1289 (b + s) (2 * s))
theorem uGz_1291 (b s : Nat) : xall (fun _ a => a ∈ lw_tbl) 3 b s Gz_1291 := And.intro (uGz_1287 b (2 * s)) (uGz_1290 (b + s) (2 * s))
theorem uGz_1292 (b s : Nat) : xall (fun _ a => a ∈ lw_tbl) 4 b s Gz_1292 := And.intro (uGz_1284 b (2 * s)) (uGz_1291 (b + s) (2 * s))
theorem uGz_1293 (b s : Nat) : xall (fun _ a => a ∈ lw_tbl) 1 b s Gz_1293 := And.intro uz_138 uz_2186
theorem uGz_1294 (b s : Nat) : xall (fun _ a => a ∈ lw_tbl) 1 b s Gz_1294 := And.intro uz_1162 uz_0
theorem uGz_1295 (b s : Nat) : xall (fun _ a => a ∈ lw_tbl) 2 b s Gz_1295 := And.intro (uGz_1293 b (2 * s)) (uGz_1294 (b + s) (2 * s))
theorem uGz_1296 (b s : Nat) : xall (fun _ a => a ∈ lw_tbl) 1 b s Gz_1296 := And.intro uz_650 uz_0
theorem uGz_1297 (b s : Nat) : xall (fun _ a => a ∈ lw_tbl) 1 b s Gz_1297 := And.intro uz_1674 uz_0
theorem uGz_1298 (b s : Nat) : xall (fun _ a => a ∈ lw_tbl) 2 b s Gz_1298 := And.intro (uGz_1296 b (2 * s)) (uGz_1297 (b + s) (2 * s))
theorem uGz_1299 (b s : Nat) : xall (fun _ a => a ∈ lw_tbl) 3 b s Gz_1299 := And.intro (uGz_1295 b (2 * s)) (uGz_1298 (b + s) (2 * s))
theorem uGz_1300 (b s : Nat) : xall (fun _ a => a ∈ lw_tbl) 1 b s Gz_1300 := And.intro uz_394 uz_0
theorem uGz_1301 (b s : Nat) : xall (fun _ a => a ∈ lw_tbl) 1 b s Gz_1301 := And.intro uz_1418 uz_0
theorem uGz_1302 (b s : Nat) : xall (fun _ a => a ∈ lw_tbl) 2 b s Gz_1302 := And.intro (uGz_1300 b (2 * s)) (uGz_1301 (b + s) (2 * s))
theorem uGz_1303 (b s : Nat) : xall (fun _ a => a ∈ lw_tbl) 1 b s Gz_1303 := And.intro uz_906 uz_0
theorem uGz_1304 (b s : Nat) : xall (fun _ a => a ∈ lw_tbl) 1 b s Gz_1304 := And.intro uz_1930 uz_0
theorem uGz_1305 (b s : Nat) : xall (fun _ a => a ∈ lw_tbl) 2 b s Gz_1305 := And.intro (uGz_1303 b (2 * s)) (uGz_1304 (b + s) (2 * s))
theorem uGz_1306 (b s : Nat) : xall (fun _ a => a ∈ lw_tbl) 3 b s Gz_1306 := And.intro (uGz_1302 b (2 * s)) (uGz_1305 (b + s) (2 * s))
theorem uGz_1307 (b s : Nat) : xall (fun _ a => a ∈ lw_tbl) 4 b s Gz_1307 := And.intro (uGz_1299 b (2 * s)) (uGz_1306 (b + s) (2 * s))
theorem uGz_1308 (b s : Nat) : xall (fun _ a => a ∈ lw_tbl) 5 b s Gz_1308 := And.intro (uGz_1292 b (2 * s)) (uGz_1307 (b + s) (2 * s))
theorem uGz_1309 (b s : Nat) : xall (fun _ a => a ∈ lw_tbl) 1 b s Gz_1309 := And.intro uz_74 uz_2122
theorem uGz_1310 (b s : Nat) : xall (fun _ a => a ∈ lw_tbl) 1 b s Gz_1310 := And.intro uz_1098 uz_0
theorem uGz_1311 (b s : Nat) : xall (fun _ a => a ∈ lw_tbl) 2 b s Gz_1311 := And.intro (uGz_1309 b (2 * s)) (uGz_1310 (b + s) (2 * s))
theorem uGz_1312 (b s : Nat) : xall (fun _ a => a ∈ lw_tbl) 1 b s Gz_1312 := And.intro uz_586 uz_0
theorem uGz_1313 (b s : Nat) : xall (fun _ a => a ∈ lw_tbl) 1 b s Gz_1313 := And.intro uz_1610 uz_0
theorem uGz_1314 (b s : Nat) : xall (fun _ a => a ∈ lw_tbl) 2 b s Gz_1314 := And.intro (uGz_1312 b (2 * s)) (uGz_1313 (b + s) (2 * s))
theorem uGz_1315 (b s : Nat) : xall (fun _ a => a ∈ lw_tbl) 3 b s Gz_1315 := And.intro (uGz_1311 b (2 * s)) (uGz_1314 (b + s) (2 * s))
theorem uGz_1316 (b s : Nat) : xall (fun _ a => a ∈ lw_tbl) 1 b s Gz_1316 := And.intro uz_330 uz_0
theorem uGz_1317 (b s : Nat) : xall (fun _ a => a ∈ lw_tbl) 1 b s Gz_1317 := And.intro uz_1354 uz_0
theorem uGz_1318 (b s : Nat) : xall (fun _ a => a ∈ lw_tbl) 2 b s Gz_1318 := And.intro (uGz_1316 b (2 * s)) (uGz_1317 (b + s) (2 * s))
theorem uGz_1319 (b s : Nat) : xall (fun _ a => a ∈ lw_tbl) 1 b s Gz_1319 := And.intro uz_842 uz_0
theorem uGz_1320 (b s : Nat) : xall (fun _ a => a ∈ lw_tbl) 1 b s Gz_1320 := And.intro uz_1866 uz_0
theorem uGz_1321 (b s : Nat) : xall (fun _ a => a ∈ lw_tbl) 2 b s Gz_1321 := And.intro (uGz_1319 b (2 * s)) (uGz_1320 (b + s) (2 * s))
theorem uGz_1322 (b s : Nat) : xall (fun _ a => a ∈ lw_tbl) 3 b s Gz_1322 := And.intro (uGz_1318 b (2 * s)) (uGz_1321 (b + s) (2 * s))
theorem uGz_1323 (b s : Nat) : xall (fun _ a => a ∈ lw_tbl) 4 b s Gz_1323 := And.intro (uGz_1315 b (2 * s)) (uGz_1322 (b + s) (2 * s))
theorem uGz_1324 (b s : Nat) : xall (fun _ a => a ∈ lw_tbl) 1 b s Gz_1324 := And.intro uz_202 uz_2250
theorem uGz_1325 (b s : Nat) : xall (fun _ a => a ∈ lw_tbl) 1 b s Gz_1325 := And.intro uz_1226 uz_0
theorem uGz_1326 (b s : Nat) : xall (fun _ a => a ∈ lw_tbl) 2 b s Gz_1326 := And.intro (uGz_1324 b (2 * s)) (uGz_1325 (b + s) (2 * s))
theorem uGz_1327 (b s : Nat) : xall (fun _ a => a ∈ lw_tbl) 1 b s Gz_1327 := And.intro uz_714 uz_0
theorem uGz_1328 (b s : Nat) : xall (fun _ a => a ∈ lw_tbl) 1 b s Gz_1328 := And.intro uz_1738 uz_0
theorem uGz_1329 (b s : Nat) : xall (fun _ a => a ∈ lw_tbl) 2 b s Gz_1329 := And.intro (uGz_1327 b (2 * s)) (uGz_1328 (b + s) (2 * s))
theorem uGz_1330 (b s : Nat) : xall (fun _ a => a ∈ lw_tbl) 3 b s Gz_1330 := And.intro (uGz_1326 b (2 * s)) (uGz_1329 (b + s) (2 * s))
theorem uGz_1331 (b s : Nat) : xall (fun _ a => a ∈ lw_tbl) 1 b s Gz_1331 := And.intro uz_458 uz_0
theorem uGz_1332 (b s : Nat) : xall (fun _ a => a ∈ lw_tbl) 1 b s Gz_1332 := And.intro uz_1482 uz_0
theorem uGz_1333 (b s : Nat) : xall (fun _ a => a ∈ lw_tbl) 2 b s Gz_1333 := And.intro (uGz_1331 b (2 * s)) (uGz_1332 (b + s) (2 * s))
theorem uGz_1334 (b s : Nat) : xall (fun _ a => a ∈ lw_tbl) 1 b s Gz_1334 := And.intro uz_970 uz_0
theorem uGz_1335 (b s : Nat) : xall (fun _ a => a ∈ lw_tbl) 1 b s Gz_1335 := And.intro uz_1994 uz_0
theorem uGz_1336 (b s : Nat) : xall (fun _ a => a ∈ lw_tbl) 2 b s Gz_1336 := And.intro (uGz_1334 b (2 * s)) (uGz_1335 (b + s) (2 * s))
theorem uGz_1337 (b s : Nat) : xall (fun _ a => a ∈ lw_tbl) 3 b s Gz_1337 := And.intro (uGz_1333 b (2 * s)) (uGz_1336 (b + s) (2 * s))
theorem uGz_1338 (b s : Nat) : xall (fun _ a => a ∈ lw_tbl) 4 b s Gz_1338 := And.intro (uGz_1330 b (2 * s)) (uGz_1337 (b + s) (2 * s))
theorem uGz_1339 (b s : Nat) : xall (fun _ a => a ∈ lw_tbl) 5 b s Gz_1339 := And.intro (uGz_1323 b (2 * s)) (uGz_1338 (b + s) (2 * s))
theorem uGz_1340 (b s : Nat) : xall (fun _ a => a ∈ lw_tbl) 6 b s Gz_1340 := And.intro (uGz_1308 b (2 * s)) (uGz_1339 (b + s) (2 * s))
theorem uGz_1341 (b s : Nat) : xall (fun _ a => a ∈ lw_tbl) 1 b s Gz_1341 := And.intro uz_42 uz_2090
theorem uGz_1342 (b s : Nat) : xall (fun _ a => a ∈ lw_tbl) 1 b s Gz_1342 := And.intro uz_1066 uz_0
theorem uGz_1343 (b s : Nat) : xall (fun _ a => a ∈ lw_tbl) 2 b s Gz_1343 := And.intro (uGz_1341 b (2 * s)) (uGz_1342 (b + s) (2 * s))
theorem uGz_1344 (b s : Nat) : xall (fun _ a => a ∈ lw_tbl) 1 b s Gz_1344 := And.intro uz_554 uz_0
theorem uGz_1345 (b s : Nat) : xall (fun _ a => a ∈ lw_tbl) 1 b s Gz_1345 := And.intro uz_1578 uz_0
theorem uGz_1346 (b s : Nat) : xall (fun _ a => a ∈ lw_tbl) 2 b s Gz_1346 := And.intro (uGz_1344 b (2 * s)) (uGz_1345 (b + s) (2 * s))
theorem uGz_1347 (b s : Nat) : xall (fun _ a => a ∈ lw_tbl) 3 b s Gz_1347 := And.intro (uGz_1343 b (2 * s)) (uGz_1346 (b + s) (2 * s))
theorem uGz_1348 (b s : Nat) : xall (fun _ a => a ∈ lw_tbl) 1 b s Gz_1348 := And.intro uz_298 uz_0
theorem uGz_1349 (b s : Nat) : xall (fun _ a => a ∈ lw_tbl) 1 b s Gz_1349 := And.intro uz_1322 uz_0
theorem uGz_1350 (b s : Nat) : xall (fun _ a => a ∈ lw_tbl) 2 b s Gz_1350 := And.intro (uGz_1348 b (2 * s)) (uGz_1349 (b + s) (2 * s))
theorem uGz_1351 (b s : Nat) : xall (fun _ a => a ∈ lw_tbl) 1 b s Gz_1351 := And.intro uz_810 uz_0
theorem uGz_1352 (b s : Nat) : xall (fun _ a => a ∈ lw_tbl) 1 b s Gz_1352 := And.intro uz_1834 uz_0
theorem uGz_1353 (b s : Nat) : xall (fun _ a => a ∈ lw_tbl) 2 b s Gz_1353 := And.intro (uGz_1351 b (2 * s)) (uGz_1352 (b + s) (2 * s))
theorem uGz_1354 (b s : Nat) : xall (fun _ a => a ∈ lw_tbl) 3 b s Gz_1354 := And.intro (uGz_1350 b (2 * s)) (uGz_1353 (b + s) (2 * s))
theorem uGz_1355 (b s : Nat) : xall (fun _ a => a ∈ lw_tbl) 4 b s Gz_1355 := And.intro (uGz_1347 b (2 * s)) (uGz_1354 (b + s) (2 * s))
theorem uGz_1356 (b s : Nat) : xall (fun _ a => a ∈ lw_tbl) 1 b s Gz_1356 := And.intro uz_170 uz_2218
theorem uGz_1357 (b s : Nat) : xall (fun _ a => a ∈ lw_tbl) 1 b s Gz_1357 := And.intro uz_1194 uz_0
theorem uGz_1358 (b s : Nat) : xall (fun _ a => a ∈ lw_tbl) 2 b s Gz_1358 := And.intro (uGz_1356 b (2 * s)) (uGz_1357 (b + s) (2 * s))
theorem uGz_1359 (b s : Nat) : xall (fun _ a => a ∈ lw_tbl) 1 b s Gz_1359 := And.intro uz_682 uz_0
theorem uGz_1360 (b s : Nat) : xall (fun _ a => a ∈ lw_tbl) 1 b s Gz_1360 := And.intro uz_1706 uz_0
theorem uGz_1361 (b s : Nat) : xall (fun _ a => a ∈ lw_tbl) 2 b s Gz_1361 := And.intro (uGz_1359 b (2 * s)) (uGz_1360 (b + s) (2 * s))
theorem uGz_1362 (b s : Nat) : xall (fun _ a => a ∈ lw_tbl) 3 b s Gz_1362 := And.intro (uGz_1358 b (2 * s)) (uGz_1361 (b + s) (2 * s))
theorem uGz_1363 (b s : Nat) : xall (fun _ a => a ∈ lw_tbl) 1 b s Gz_1363 := And.intro uz_426 uz_0
theorem uGz_1364 (b s : Nat) : xall (fun _ a => a ∈ lw_tbl) 1 b s Gz_1364 := And.intro uz_1450 uz_0
theorem uGz_1365 (b s : Nat) : xall (fun _ a => a ∈ lw_tbl) 2 b s Gz_1365 := And.intro (uGz_1363 b (2 * s)) (uGz_1364 (b + s) (2 * s))
theorem uGz_1366 (b s : Nat) : xall (fun _ a => a ∈ lw_tbl) 1 b s Gz_1366 := And.intro uz_938 uz_0
theorem uGz_1367 (b s : Nat) : xall (fun _ a => a ∈ lw_tbl) 1 b s Gz_1367 := And.intro uz_1962 uz_0
theorem uGz_1368 (b s : Nat) : xall (fun _ a => a ∈ lw_tbl) 2 b s Gz_1368 := And.intro (uGz_1366 b (2 * s)) (uGz_1367 (b + s) (2 * s))
theorem uGz_1369 (b s : Nat) : xall (fun _ a => a ∈ lw_tbl) 3 b s Gz_1369 := And.intro (uGz_1365 b (2 * s)) (uGz_1368 (b + s) (2 * s))
theorem uGz_1370 (b s : Nat) : xall (fun _ a => a ∈ lw_tbl) 4 b s Gz_1370 := And.intro (uGz_1362 b (2 * s)) (uGz_1369 (b + s) (2 * s))
theorem uGz_1371 (b s : Nat) : xall (fun _ a => a ∈ lw_tbl) 5 b s Gz_1371 := And.intro (uGz_1355 b (2 * s)) (uGz_1370 (b + s) (2 * s))
theorem uGz_1372 (b s : Nat) : xall (fun _ a => a ∈ lw_tbl) 1 b s Gz_1372 := And.intro uz_106 uz_2154
theorem uGz_1373 (b s : Nat) : xall (fun _ a => a ∈ lw_tbl) 1 b s Gz_1373 := And.intro uz_1130 uz_0
theorem uGz_1374 (b s : Nat) : xall (fun _ a => a ∈ lw_tbl) 2 b s Gz_1374 := And.intro (uGz_1372 b (2 * s)) (uGz_1373 (b + s) (2 * s))
theorem uGz_1375 (b s : Nat) : xall (fun _ a => a ∈ lw_tbl) 1 b s Gz_1375 := And.intro uz_618 uz_0
theorem uGz_1376 (b s : Nat) : xall (fun _ a => a ∈ lw_tbl) 1 b s Gz_1376 := And.intro uz_1642 uz_0
theorem uGz_1377 (b s : Nat) : xall (fun _ a => a ∈ lw_tbl) 2 b s Gz_1377 := And.intro (uGz_1375 b (2 * s)) (uGz_1376 (b + s) (2 * s))
theorem uGz_1378 (b s : Nat) : xall (fun _ a => a ∈ lw_tbl) 3 b s Gz_1378 := And.intro (uGz_1374 b (2 * s)) (uGz_1377 (b + s) (2 * s))
theorem uGz_1379 (b s : Nat) : xall (fun _ a => a ∈ lw_tbl) 1 b s Gz_1379 := And.intro uz_362 uz_0
theorem uGz_1380 (b s : Nat) : xall (fun _ a => a ∈ lw_tbl) 1 b s Gz_1380 := And.intro uz_1386 uz_0
theorem uGz_1381 (b s : Nat) : xall (fun _ a => a ∈ lw_tbl) 2 b s Gz_1381 := And.intro (uGz_1379 b (2 * s)) (uGz_1380 (b + s) (2 * s))
theorem uGz_1382 (b s : Nat) : xall (fun _ a => a ∈ lw_tbl) 1 b s Gz_1382 := And.intro uz_874 uz_0
theorem uGz_1383 (b s : Nat) : xall (fun _ a => a ∈ lw_tbl) 1 b s Gz_1383 := And.intro uz_1898 uz_0
theorem uGz_1384 (b s : Nat) : xall (fun _ a => a ∈ lw_tbl) 2 b s Gz_1384 := And.intro (uGz_1382 b (2 * s)) (uGz_1383 (b + s) (2 * s))
theorem uGz_1385 (b s : Nat) : xall (fun _ a => a ∈ lw_tbl) 3 b s Gz_1385 := And.intro (uGz_1381 b (2 * s)) (uGz_1384 (b + s) (2 * s))
theorem uGz_1386 (b s : Nat) : xall (fun _ a => a ∈ lw_tbl) 4 b s Gz_1386 := And.intro (uGz_1378 b (2 * s)) (uGz_1385 (b + s) (2 * s))
theorem uGz_1387 (b s : Nat) : xall (fun _ a => a ∈ lw_tbl) 1 b s Gz_1387 := And.intro uz_234 uz_0
theorem uGz_1388 (b s : Nat) : xall (fun _ a => a ∈ lw_tbl) 1 b s Gz_1388 := And.intro uz_1258 uz_0
theorem uGz_1389 (b s : Nat) : xall (fun _ a => a ∈ lw_tbl) 2 b s Gz_1389 := And.intro (uGz_1387 b (2 * s)) (uGz_1388 (b + s) (2 * s))
theorem uGz_1390 (b s : Nat) : xall (fun _ a => a ∈ lw_tbl) 1 b s Gz_1390 := And.intro uz_746 uz_0
theorem uGz_1391 (b s : Nat) : xall (fun _ a => a ∈ lw_tbl) 1 b s Gz_1391 := And.intro uz_1770 uz_0
theorem uGz_1392 (b s : Nat) : xall (fun _ a => a ∈ lw_tbl) 2 b s Gz_1392 := And.intro (uGz_1390 b (2 * s)) (uGz_1391 (b + s) (2 * s))
theorem uGz_1393 (b s : Nat) : xall (fun _ a => a ∈ lw_tbl) 3 b s Gz_1393 := And.intro (uGz_1389 b (2 * s)) (uGz_1392 (b + s) (2 * s))
theorem uGz_1394 (b s : Nat) : xall (fun _ a => a ∈ lw_tbl) 1 b s Gz_1394 := And.intro uz_490 uz_0
theorem uGz_1395 (b s : Nat) : xall (fun _ a => a ∈ lw_tbl) 1 b s Gz_1395 := And.intro uz_1514 uz_0
theorem uGz_1396 (b s : Nat) : xall (fun _ a => a ∈ lw_tbl) 2 b s Gz_1396 := And.intro (uGz_1394 b (2 * s)) (uGz_1395 (b + s) (2 * s))
theorem uGz_1397 (b s : Nat) : xall (fun _ a => a ∈ lw_tbl) 1 b s Gz_1397 := And.intro uz_1002 uz_0
theorem uGz_1398 (b s : Nat) : xall (fun _ a => a ∈ lw_tbl) 1 b s Gz_1398 := And.intro uz_2026 uz_0
theorem uGz_1399 (b s : Nat) : xall (fun _ a => a ∈ lw_tbl) 2 b s Gz_1399 := And.intro (uGz_1397 b (2 * s)) (uGz_1398 (b + s) (2 * s))
theorem uGz_1400 (b s : Nat) : xall (fun _ a => a ∈ lw_tbl) 3 b s Gz_1400 := And.intro (uGz_1396 b (2 * s)) (uGz_1399 (b + s) (2 * s))
theorem uGz_1401 (b s : Nat) : xall (fun _ a => a ∈ lw_tbl) 4 b s Gz_1401 := And.intro (uGz_1393 b (2 * s)) (uGz_1400 (b + s) (2 * s))
theorem uGz_1402 (b s : Nat) : xall (fun _ a => a ∈ lw_tbl) 5 b s Gz_1402 := And.intro (uGz_1386 b (2 * s)) (uGz_1401 (b + s) (2 * s))
theorem uGz_1403 (b s : Nat) : xall (fun _ a => a ∈ lw_tbl) 6 b s Gz_1403 := And.intro (uGz_1371 b (2 * s)) (uGz_1402 (b + s) (2 * s))
theorem uGz_1404 (b s : Nat) : xall (fun _ a => a ∈ lw_tbl) 7 b s Gz_1404 := And.intro (uGz_1340 b (2 * s)) (uGz_1403 (b + s) (2 * s))
theorem uGz_1405 (b s : Nat) : xall (fun _ a => a ∈ lw_tbl) 1 b s Gz_1405 := And.intro uz_26 uz_2074
theorem uGz_1406 (b s : Nat) : xall (fun _ a => a ∈ lw_tbl) 1 b s Gz_1406 := And.intro uz_1050 uz_0
theorem uGz_1407 (b s : Nat) : xall (fun _ a => a ∈ lw_tbl) 2 b s Gz_1407 := And.intro (uGz_1405 b (2 * s)) (uGz_1406 (b + s) (2 * s))
theorem uGz_1408 (b s : Nat) : xall (fun _ a => a ∈ lw_tbl) 1 b s Gz_1408 := And.intro uz_538 uz_0
theorem uGz_1409 (b s : Nat) : xall (fun _ a => a ∈ lw_tbl) 1 b s Gz_1409 := And.intro uz_1562 uz_0
theorem uGz_1410 (b s : Nat) : xall (fun _ a => a ∈ lw_tbl) 2 b s Gz_1410 := And.intro (uGz_1408 b (2 * s)) (uGz_1409 (b + s) (2 * s))
theorem uGz_1411 (b s : Nat) : xall (fun _ a => a ∈ lw_tbl) 3 b s Gz_1411 := And.intro (uGz_1407 b (2 * s)) (uGz_1410 (b + s) (2 * s))
theorem uGz_1412 (b s : Nat) : xall (fun _ a => a ∈ lw_tbl) 1 b s Gz_1412 := And.intro uz_282 uz_0
theorem uGz_1413 (b s : Nat) : xall (fun _ a => a ∈ lw_tbl) 1 b s Gz_1413 := And.intro uz_1306 uz_0
theorem uGz_1414 (b s : Nat) : xall (fun _ a => a ∈ lw_tbl) 2 b s Gz_1414 := And.intro (uGz_1412 b (2 * s)) (uGz_1413 (b + s) (2 * s))
theorem uGz_1415 (b s : Nat) : xall (fun _ a => a ∈ lw_tbl) 1 b s Gz_1415 := And.intro uz_794 uz_0
theorem uGz_1416 (b s : Nat) : xall (fun _ a => a ∈ lw_tbl) 1 b s Gz_1416 := And.intro uz_1818 uz_0
theorem uGz_1417 (b s : Nat) : xall (fun _ a => a ∈ lw_tbl) 2 b s Gz_1417 := And.intro (uGz_1415 b (2 * s)) (uGz_1416 (b + s) (2 * s))
theorem uGz_1418 (b s : Nat) : xall (fun _ a => a ∈ lw_tbl) 3 b s Gz_1418 := And.intro (uGz_1414 b (2 * s)) (uGz_1417 (b + s) (2 * s))
theorem uGz_1419 (b s : Nat) : xall (fun _ a => a ∈ lw_tbl) 4 b s Gz_1419 := And.intro (uGz_1411 b (2 * s)) (uGz_1418 (b + s) (2 * s))
theorem uGz_1420 (b s : Nat) : xall (fun _ a => a ∈ lw_tbl) 1 b s Gz_1420 := And.intro uz_154 uz_2202
theorem uGz_1421 (b s : Nat) : xall (fun _ a => a ∈ lw_tbl) 1 b s Gz_1421 := And.intro uz_1178 uz_0
theorem uGz_1422 (b s : Nat) : xall (fun _ a => a ∈ lw_tbl) 2 b s Gz_1422 := And.intro (uGz_1420 b (2 * s)) (uGz_1421 (b + s) (2 * s))
theorem uGz_1423 (b s : Nat) : xall (fun _ a => a ∈ lw_tbl) 1 b s Gz_1423 := And.intro uz_666 uz_0
theorem uGz_1424 (b s : Nat) : xall (fun _ a => a ∈ lw_tbl) 1 b s Gz_1424 := And.intro uz_1690 uz_0
theorem uGz_1425 (b s : Nat) : xall (fun _ a => a ∈ lw_tbl) 2 b s Gz_1425 := And.intro (uGz_1423 b (2 * s)) (uGz_1424 (b + s) (2 * s))
theorem uGz_1426 (b s : Nat) : xall (fun _ a => a ∈ lw_tbl) 3 b s Gz_1426 := And.intro (uGz_1422 b (2 * s)) (uGz_1425 (b + s) (2 * s))
theorem uGz_1427 (b s : Nat) : xall (fun _ a => a ∈ lw_tbl) 1 b s Gz_1427 := And.intro uz_410 uz_0
theorem uGz_1428 (b s : Nat) : xall (fun _ a => a ∈ lw_tbl) 1 b s Gz_1428 := And.intro uz_1434 uz_0
theorem uGz_1429 (b s : Nat) : xall (fun _ a => a ∈ lw_tbl) 2 b s Gz_1429 := And.intro (uGz_1427 b (2 * s)) (uGz_1428 (b + s) (2 * s))
theorem uGz_1430 (b s : Nat) : xall (fun _ a => a ∈ lw_tbl) 1 b s Gz_1430 := And.intro uz_922 uz_0
theorem uGz_1431 (b s : Nat) : xall (fun _ a => a ∈ lw_tbl) 1 b s Gz_1431 := And.intro uz_1946 uz_0
theorem uGz_1432 (b s : Nat) : xall (fun _ a => a ∈ lw_tbl) 2 b s Gz_1432 := And.intro (uGz_1430 b (2 * s)) (uGz_1431 (b + s) (2 * s))
theorem uGz_1433 (b s : Nat) : xall (fun _ a => a ∈ lw_tbl) 3 b s Gz_1433 := And.intro (uGz_1429 b (2 * s)) (uGz_1432 (b + s) (2 * s))
theorem uGz_1434 (b s : Nat) : xall (fun _ a => a ∈ lw_tbl) 4 b s Gz_1434 := And.intro (uGz_1426 b (2 * s)) (uGz_1433 (b + s) (2 * s))
theorem uGz_1435 (b s : Nat) : xall (fun _ a => a ∈ lw_tbl) 5 b s Gz_1435 := And.intro (uGz_1419 b (2 * s)) (uGz_1434 (b + s) (2 * s))
theorem uGz_1436 (b s : Nat) : xall (fun _ a => a ∈ lw_tbl) 1 b s Gz_1436 := And.intro uz_90 uz_2138
theorem uGz_1437 (b s : Nat) : xall (fun _ a => a ∈ lw_tbl) 1 b s Gz_1437 := And.intro uz_1114 uz_0
theorem uGz_1438 (b s : Nat) : xall (fun _ a => a ∈ lw_tbl) 2 b s Gz_1438 := And.intro (uGz_1436 b (2 * s)) (uGz_1437 (b + s) (2 * s))
theorem uGz_1439 (b s : Nat) : xall (fun _ a => a ∈ lw_tbl) 1 b s Gz_1439 := And.intro uz_602 uz_0
theorem uGz_1440 (b s : Nat) : xall (fun _ a => a ∈ lw_tbl) 1 b s Gz_1440 := And.intro uz_1626 uz_0
theorem uGz_1441 (b s : Nat) : xall (fun _ a => a ∈ lw_tbl) 2 b s Gz_1441 := And.intro (uGz_1439 b (2 * s)) (uGz_1440 (b + s) (2 * s))
theorem uGz_1442 (b s : Nat) : xall (fun _ a => a ∈ lw_tbl) 3 b s Gz_1442 := And.intro (uGz_1438 b (2 * s)) (uGz_1441 (b + s) (2 * s))
theorem uGz_1443 (b s : Nat) : xall (fun _ a => a ∈ lw_tbl) 1 b s Gz_1443 := And.intro uz_346 uz_0
theorem uGz_1444 (b s : Nat) : xall (fun _ a => a ∈ lw_tbl) 1 b s Gz_1444 := And.intro uz_1370 uz_0
theorem uGz_1445 (b s : Nat) : xall (fun _ a => a ∈ lw_tbl) 2 b s Gz_1445 := And.intro (uGz_1443 b (2 * s)) (uGz_1444 (b + s) (2 * s))
theorem uGz_1446 (b s : Nat) : xall (fun _ a => a ∈ lw_tbl) 1 b s Gz_1446 := And.intro uz_858 uz_0
theorem uGz_1447 (b s : Nat) : xall (fun _ a => a ∈ lw_tbl) 1 b s Gz_1447 := And.intro uz_1882 uz_0
theorem uGz_1448 (b s : Nat) : xall (fun _ a => a ∈ lw_tbl) 2 b s Gz_1448 := And.intro (uGz_1446 b (2 * s)) (uGz_1447 (b + s) (2 * s))
theorem uGz_1449 (b s : Nat) : xall (fun _ a => a ∈ lw_tbl) 3 b s Gz_1449 := And.intro (uGz_1445 b (2 * s)) (uGz_1448 (b + s) (2 * s))
theorem uGz_1450 (b s : Nat) : xall (fun _ a => a ∈ lw_tbl) 4 b s Gz_1450 := And.intro (uGz_1442 b (2 * s)) (uGz_1449 (b + s) (2 * s))
theorem uGz_1451 (b s : Nat) : xall (fun _ a => a ∈ lw_tbl) 1 b s Gz_1451 := And.intro uz_218 uz_0
theorem uGz_1452 (b s : Nat) : xall (fun _ a => a ∈ lw_tbl) 1 b s Gz_1452 := And.intro uz_1242 uz_0
theorem uGz_1453 (b s : Nat) : xall (fun _ a => a ∈ lw_tbl) 2 b s Gz_1453 := And.intro (uGz_1451 b (2 * s)) (uGz_1452 (b + s) (2 * s))
theorem uGz_1454 (b s : Nat) : xall (fun _ a => a ∈ lw_tbl) 1 b s Gz_1454 := And.intro uz_730 uz_0
theorem uGz_1455 (b s : Nat) : xall (fun _ a => a ∈ lw_tbl) 1 b s Gz_1455 := And.intro uz_1754 uz_0
theorem uGz_1456 (b s : Nat) : xall (fun _ a => a ∈ lw_tbl) 2 b s Gz_1456 := And.intro (uGz_1454 b (2 * s)) (uGz_1455 (b + s) (2 * s))
theorem uGz_1457 (b s : Nat) : xall (fun _ a => a ∈ lw_tbl) 3 b s Gz_1457 := And.intro (uGz_1453 b (2 * s)) (uGz_1456 (b + s) (2 * s))
theorem uGz_1458 (b s : Nat) : xall (fun _ a => a ∈ lw_tbl) 1 b s Gz_1458 := And.intro uz_474 uz_0
theorem uGz_1459 (b s : Nat) : xall (fun _ a => a ∈ lw_tbl) 1 b s Gz_1459 := And.intro uz_1498 uz_0
theorem uGz_1460 (b s : Nat) : xall (fun _ a => a ∈ lw_tbl) 2 b s Gz_1460 := And.intro (uGz_1458 b (2 * s)) (uGz_1459 (b + s) (2 * s))
theorem uGz_1461 (b s : Nat) : xall (fun _ a => a ∈ lw_tbl) 1 b s Gz_1461 := And.intro uz_986 uz_0
theorem uGz_1462 (b s : Nat) : xall (fun _ a => a ∈ lw_tbl) 1 b s Gz_1462 := And.intro uz_2010 uz_0
theorem uGz_1463 (b s : Nat) : xall (fun _ a => a ∈ lw_tbl) 2 b s Gz_1463 := And.intro (uGz_1461 b (2 * s)) (uGz_1462 (b + s) (2 * s))
theorem uGz_1464 (b s : Nat) : xall (fun _ a => a ∈ lw_tbl) 3 b s Gz_1464 := And.intro (uGz_1460 b (2 * s)) (uGz_1463 (b + s) (2 * s))
theorem uGz_1465 (b s : Nat) : xall (fun _ a => a ∈ lw_tbl) 4 b s Gz_1465 := And.intro (uGz_1457 b (2 * s)) (uGz_1464 (b + s) (2 * s))
theorem uGz_1466 (b s : Nat) : xall (fun _ a => a ∈ lw_tbl) 5 b s Gz_1466 := And.intro (uGz_1450 b (2 * s)) (uGz_1465 (b + s) (2 * s))
theorem uGz_1467 (b s : Nat) : xall (fun _ a => a ∈ lw_tbl) 6 b s Gz_1467 := And.intro (uGz_1435 b (2 * s)) (uGz_1466 (b + s) (2 * s))
theorem uGz_1468 (b s : Nat) : xall (fun _ a => a ∈ lw_tbl) 1 b s Gz_1468 := And.intro uz_58 uz_2106
theorem uGz_1469 (b s : Nat) : xall (fun _ a => a ∈ lw_tbl) 1 b s Gz_1469 := And.intro uz_1082 uz_0
theorem uGz_1470 (b s : Nat) : xall (fun _ a => a ∈ lw_tbl) 2 b s Gz_1470 := And.intro (uGz_1468 b (2 * s)) (uGz_1469 (b + s) (2 * s))
theorem uGz_1471 (b s : Nat) : xall (fun _ a => a ∈ lw_tbl) 1 b s Gz_1471 := And.intro uz_570 uz_0
theorem uGz_1472 (b s : Nat) : xall (fun _ a => a ∈ lw_tbl) 1 b s Gz_1472 := And.intro uz_1594 uz_0
theorem uGz_1473 (b s : Nat) : xall (fun _ a => a ∈ lw_tbl) 2 b s Gz_1473 := And.intro (uGz_1471 b (2 * s)) (uGz_1472 (b + s) (2 * s))
theorem uGz_1474 (b s : Nat) : xall (fun _ a => a ∈ lw_tbl) 3 b s Gz_1474 := And.intro (uGz_1470 b (2 * s)) (uGz_1473 (b + s) (2 * s))
theorem uGz_1475 (b s : Nat) : xall (fun _ a => a ∈ lw_tbl) 1 b s Gz_1475 := And.intro uz_314 uz_0
theorem uGz_1476 (b s : Nat) : xall (fun _ a => a ∈ lw_tbl) 1 b s Gz_1476 := And.intro uz_1338 uz_0
theorem uGz_1477 (b s : Nat) : xall (fun _ a => a ∈ lw_tbl) 2 b s Gz_1477 := And.intro (uGz_1475 b (2 * s)) (uGz_1476 (b + s) (2 * s))
theorem uGz_1478 (b s : Nat) : xall (fun _ a => a ∈ lw_tbl) 1 b s Gz_1478 := And.intro uz_826 uz_0
theorem uGz_1479 (b s : Nat) : xall (fun _ a => a ∈ lw_tbl) 1 b s Gz_1479 := And.intro uz_1850 uz_0
theorem uGz_1480 (b s : Nat) : xall (fun _ a => a ∈ lw_tbl) 2 b s Gz_1480 := And.intro (uGz_1478 b (2 * s)) (uGz_1479 (b + s) (2 * s))
theorem uGz_1481 (b s : Nat) : xall (fun _ a => a ∈ lw_tbl) 3 b s Gz_1481 := And.intro (uGz_1477 b (2 * s)) (uGz_1480 (b + s) (2 * s))
theorem uGz_1482 (b s : Nat) : xall (fun _ a => a ∈ lw_tbl) 4 b s Gz_1482 := And.intro (uGz_1474 b (2 * s)) (uGz_1481 (b + s) (2 * s))
theorem uGz_1483 (b s : Nat) : xall (fun _ a => a ∈ lw_tbl) 1 b s Gz_1483 := And.intro uz_186 uz_2234
theorem uGz_1484 (b s : Nat) : xall (fun _ a => a ∈ lw_tbl) 1 b s Gz_1484 := And.intro uz_1210 uz_0
theorem uGz_1485 (b s : Nat) : xall (fun _ a => a ∈ lw_tbl) 2 b s Gz_1485 := And.intro (uGz_1483 b (2 * s)) (uGz_1484 (b + s) (2 * s))
theorem uGz_1486 (b s : Nat) : xall (fun _ a => a ∈ lw_tbl) 1 b s Gz_1486 := And.intro uz_698 uz_0
theorem uGz_1487 (b s : Nat) : xall (fun _ a => a ∈ lw_tbl) 1 b s Gz_1487 := And.intro uz_1722 uz_0
theorem uGz_1488 (b s : Nat) : xall (fun _ a => a ∈ lw_tbl) 2 b s Gz_1488 := And.intro (uGz_1486 b (2 * s)) (uGz_1487 (b + s) (2 * s))
theorem uGz_1489 (b s : Nat) : xall (fun _ a => a ∈ lw_tbl) 3 b s Gz_1489 := And.intro (uGz_1485 b (2 * s)) (uGz_1488 (b + s) (2 * s))
theorem uGz_1490 (b s : Nat) : xall (fun _ a => a ∈ lw_tbl) 1 b s Gz_1490 := And.intro uz_442 uz_0
theorem uGz_1491 (b s : Nat) : xall (fun _ a => a ∈ lw_tbl) 1 b s Gz_1491 := And.intro uz_1466 uz_0
theorem uGz_1492 (b s : Nat) : xall (fun _ a => a ∈ lw_tbl) 2 b s Gz_1492 := And.intro (uGz_1490 b (2 * s)) (uGz_1491 (b + s) (2 * s))
theorem uGz_1493 (b s : Nat) : xall (fun _ a => a ∈ lw_tbl) 1 b s Gz_1493 := And.intro uz_954 uz_0
theorem uGz_1494 (b s : Nat) : xall (fun _ a => a ∈ lw_tbl) 1 b s Gz_1494 := And.intro uz_1978 uz_0
theorem uGz_1495 (b s : Nat) : xall (fun _ a => a ∈ lw_tbl) 2 b s Gz_1495 := And.intro (uGz_1493 b (2 * s)) (uGz_1494 (b + s) (2 * s))
theorem uGz_1496 (b s : Nat) : xall (fun _ a => a ∈ lw_tbl) 3 b s Gz_1496 := And.intro (uGz_1492 b (2 * s)) (uGz_1495 (b + s) (2 * s))
theorem uGz_1497 (b s : Nat) : xall (fun _ a => a ∈ lw_tbl) 4 b s Gz_1497 := And.intro (uGz_1489 b (2 * s)) (uGz_1496 (b + s) (2 * s))
theorem uGz_1498 (b s : Nat) : xall (fun _ a => a ∈ lw_tbl) 5 b s Gz_1498 := And.intro (uGz_1482 b (2 * s)) (uGz_1497 (b + s) (2 * s))
theorem uGz_1499 (b s : Nat) : xall (fun _ a => a ∈ lw_tbl) 1 b s Gz_1499 := And.intro uz_122 uz_2170
theorem uGz_1500 (b s : Nat) : xall (fun _ a => a ∈ lw_tbl) 1 b s Gz_1500 := And.intro uz_1146 uz_0
theorem uGz_1501 (b s : Nat) : xall (fun _ a => a ∈ lw_tbl) 2 b s Gz_1501 := And.intro (uGz_1499 b (2 * s)) (uGz_1500 (b + s) (2 * s))
theorem uGz_1502 (b s : Nat) : xall (fun _ a => a ∈ lw_tbl) 1 b s Gz_1502 := And.intro uz_634 uz_0
theorem uGz_1503 (b s : Nat) : xall (fun _ a => a ∈ lw_tbl) 1 b s Gz_1503 := And.intro uz_1658 uz_0
theorem uGz_1504 (b s : Nat) : xall (fun _ a => a ∈ lw_tbl) 2 b s Gz_1504 := And.intro (uGz_1502 b (2 * s)) (uGz_1503 (b + s) (2 * s))
theorem uGz_1505 (b s : Nat) : xall (fun _ a => a ∈ lw_tbl) 3 b s Gz_1505 := And.intro (uGz_1501 b (2 * s)) (uGz_1504 (b + s) (2 * s))
theorem uGz_1506 (b s : Nat) : xall (fun _ a => a ∈ lw_tbl) 1 b s Gz_1506 := And.intro uz_378 uz_0
theorem uGz_1507 (b s : Nat) : xall (fun _ a => a ∈ lw_tbl) 1 b s Gz_1507 := And.intro uz_1402 uz_0
theorem uGz_1508 (b s : Nat) : xall (fun _ a => a ∈ lw_tbl) 2 b s Gz_1508 := And.intro (uGz_1506 b (2 * s)) (uGz_1507 (b + s) (2 * s))
theorem uGz_1509 (b s : Nat) : xall (fun _ a => a ∈ lw_tbl) 1 b s Gz_1509 := And.intro uz_890 uz_0
theorem uGz_1510 (b s : Nat) : xall (fun _ a => a ∈ lw_tbl) 1 b s Gz_1510 := And.intro uz_1914 uz_0
theorem uGz_1511 (b s : Nat) : xall (fun _ a => a ∈ lw_tbl) 2 b s Gz_1511 := And.intro (uGz_1509 b (2 * s)) (uGz_1510 (b + s) (2 * s))
theorem uGz_1512 (b s : Nat) : xall (fun _ a => a ∈ lw_tbl) 3 b s Gz_1512 := And.intro (uGz_1508 b (2 * s)) (uGz_1511 (b + s) (2 * s))
theorem uGz_1513 (b s : Nat) : xall (fun _ a => a ∈ lw_tbl) 4 b s Gz_1513 := And.intro (uGz_1505 b (2 * s)) (uGz_1512 (b + s) (2 * s))
theorem uGz_1514 (b s : Nat) : xall (fun _ a => a ∈ lw_tbl) 1 b s Gz_1514 := And.intro uz_250 uz_0
theorem uGz_1515 (b s : Nat) : xall (fun _ a => a ∈ lw_tbl) 1 b s Gz_1515 := And.intro uz_1274 uz_0
theorem uGz_1516 (b s : Nat) : xall (fun _ a => a ∈ lw_tbl) 2 b s Gz_1516 := And.intro (uGz_1514 b (2 * s)) (uGz_1515 (b + s) (2 * s))
theorem uGz_1517 (b s : Nat) : xall (fun _ a => a ∈ lw_tbl) 1 b s Gz_1517 := And.intro uz_762 uz_0
theorem uGz_1518 (b s : Nat) : xall (fun _ a => a ∈ lw_tbl) 1 b s Gz_1518 := And.intro uz_1786 uz_0
theorem uGz_1519 (b s : Nat) : xall (fun _ a => a ∈ lw_tbl) 2 b s Gz_1519 := And.intro (uGz_1517 b (2 * s)) (uGz_1518 (b + s) (2 * s))
theorem uGz_1520 (b s : Nat) : xall (fun _ a => a ∈ lw_tbl) 3 b s Gz_1520 := And.intro (uGz_1516 b (2 * s)) (uGz_1519 (b + s) (2 * s))
theorem uGz_1521 (b s : Nat) : xall (fun _ a => a ∈ lw_tbl) 1 b s Gz_1521 := And.intro uz_506 uz_0
theorem uGz_1522 (b s : Nat) : xall (fun _ a => a ∈ lw_tbl) 1 b s Gz_1522 := And.intro uz_1530 uz_0
theorem uGz_1523 (b s : Nat) : xall (fun _ a => a ∈ lw_tbl) 2 b s Gz_1523 := And.intro (uGz_1521 b (2 * s)) (uGz_1522 (b + s) (2 * s))
theorem uGz_1524 (b s : Nat) : xall (fun _ a => a ∈ lw_tbl) 1 b s Gz_1524 := And.intro uz_1018 uz_0
theorem uGz_1525 (b s : Nat) : xall (fun _ a => a ∈ lw_tbl) 1 b s Gz_1525 := And.intro uz_2042 uz_0
theorem uGz_1526 (b s : Nat) : xall (fun _ a => a ∈ lw_tbl) 2 b s Gz_1526 := And.intro (uGz_1524 b (2 * s)) (uGz_1525 (b + s) (2 * s))
theorem uGz_1527 (b s : Nat) : xall (fun _ a => a ∈ lw_tbl) 3 b s Gz_1527 := And.intro (uGz_1523 b (2 * s)) (uGz_1526 (b + s) (2 * s))
theorem uGz_1528 (b s : Nat) : xall (fun _ a => a ∈ lw_tbl) 4 b s Gz_1528 := And.intro (uGz_1520 b (2 * s)) (uGz_1527 (b + s) (2 * s))
theorem uGz_1529 (b s : Nat) : xall (fun _ a => a ∈ lw_tbl) 5 b s Gz_1529 := And.intro (uGz_1513 b (2 * s)) (uGz_1528 (b + s) (2 * s))
theorem uGz_1530 (b s : Nat) : xall (fun _ a => a ∈ lw_tbl) 6 b s Gz_1530 := And.intro (uGz_1498 b (2 * s)) (uGz_1529 (b + s) (2 * s))
theorem uGz_1531 (b s : Nat) : xall (fun _ a => a ∈ lw_tbl) 7 b s Gz_1531 := And.intro (uGz_1467 b (2 * s)) (uGz_1530 (b + s) (2 * s))
theorem uGz_1532 (b s : Nat) : xall (fun _ a => a ∈ lw_tbl) 8 b s Gz_1532 := And.intro (uGz_1404 b (2 * s)) (uGz_1531 (b + s) (2 * s))
theorem uGz_1533 (b s : Nat) : xall (fun _ a => a ∈ lw_tbl) 9 b s Gz_1533 := And.intro (uGz_1277 b (2 * s)) (uGz_1532 (b + s) (2 * s))
theorem uGz_1534 (b s : Nat) : xall (fun _ a => a ∈ lw_tbl) 1 b s Gz_1534 := And.intro uz_6 uz_2054
theorem uGz_1535 (b s : Nat) : xall (fun _ a => a ∈ lw_tbl) 1 b s Gz_1535 := And.intro uz_1030 uz_0
theorem uGz_1536 (b s : Nat) : xall (fun _ a => a ∈ lw_tbl) 2 b s Gz_1536 := And.intro (uGz_1534 b (2 * s)) (uGz_1535 (b + s) (2 * s))
theorem uGz_1537 (b s : Nat) : xall (fun _ a => a ∈ lw_tbl) 1 b s Gz_1537 := And.intro uz_518 uz_0
theorem uGz_1538 (b s : Nat) : xall (fun _ a => a ∈ lw_tbl) 1 b s Gz_1538 := And.intro uz_1542 uz_0
theorem uGz_1539 (b s : Nat) : xall (fun _ a => a ∈ lw_tbl) 2 b s Gz_1539 := And.intro (uGz_1537 b (2 * s)) (uGz_1538 (b + s) (2 * s))
theorem uGz_1540 (b s : Nat) : xall (fun _ a => a ∈ lw_tbl) 3 b s Gz_1540 := And.intro (uGz_1536 b (2 * s)) (uGz_1539 (b + s) (2 * s))
theorem uGz_1541 (b s : Nat) : xall (fun _ a => a ∈ lw_tbl) 1 b s Gz_1541 := And.intro uz_262 uz_0
theorem uGz_1542 (b s : Nat) : xall (fun _ a => a ∈ lw_tbl) 1 b s Gz_1542 := And.intro uz_1286 uz_0
theorem uGz_1543 (b s : Nat) : xall (fun _ a => a ∈ lw_tbl) 2 b s Gz_1543 := And.intro (uGz_1541 b (2 * s)) (uGz_1542 (b + s) (2 * s))
theorem uGz_1544 (b s : Nat) : xall (fun _ a => a ∈ lw_tbl) 1 b s Gz_1544 := And.intro uz_774 uz_0
theorem uGz_1545 (b s : Nat) : xall (fun _ a => a ∈ lw_tbl) 1 b s Gz_1545 := And.intro uz_1798 uz_0
theorem uGz_1546 (b s : Nat) : xall (fun _ a => a ∈ lw_tbl) 2 b s Gz_1546 := And.intro (uGz_1544 b (2 * s)) (uGz_1545 (b + s) (2 * s))
theorem uGz_1547 (b s : Nat) : xall (fun _ a => a ∈ lw_tbl) 3 b s Gz_1547 := And.intro (uGz_1543 b (2 * s)) (uGz_1546 (b + s) (2 * s))
theorem uGz_1548 (b s : Nat) : xall (fun _ a => a ∈ lw_tbl) 4 b s Gz_1548 := And.intro (uGz_1540 b (2 * s)) (uGz_1547 (b + s) (2 * s))
theorem uGz_1549 (b s : Nat) : xall (fun _ a => a ∈ lw_tbl) 1 b s Gz_1549 := And.intro uz_134 uz_2182
theorem uGz_1550 (b s : Nat) : xall (fun _ a => a ∈ lw_tbl) 1 b s Gz_1550 := And.intro uz_1158 uz_0
theorem uGz_1551 (b s : Nat) : xall (fun _ a => a ∈ lw_tbl) 2 b s Gz_1551 := And.intro (uGz_1549 b (2 * s)) (uGz_1550 (b + s) (2 * s))
theorem uGz_1552 (b s : Nat) : xall (fun _ a => a ∈ lw_tbl) 1 b s Gz_1552 := And.intro uz_646 uz_0
theorem uGz_1553 (b s : Nat) : xall (fun _ a => a ∈ lw_tbl) 1 b s Gz_1553 := And.intro uz_1670 uz_0
theorem uGz_1554 (b s : Nat) : xall (fun _ a => a ∈ lw_tbl) 2 b s Gz_1554 := And.intro (uGz_1552 b (2 * s)) (uGz_1553 (b + s) (2 * s))
theorem uGz_1555 (b s : Nat) : xall (fun _ a => a ∈ lw_tbl) 3 b s Gz_1555 := And.intro (uGz_1551 b (2 * s)) (uGz_1554 (b + s) (2 * s))
theorem uGz_1556 (b s : Nat) : xall (fun _ a => a ∈ lw_tbl) 1 b s Gz_1556 := And.intro uz_390 uz_0
theorem uGz_1557 (b s : Nat) : xall (fun _ a => a ∈ lw_tbl) 1 b s Gz_1557 := And.intro uz_1414 uz_0
theorem uGz_1558 (b s : Nat) : xall (fun _ a => a ∈ lw_tbl) 2 b s Gz_1558 := And.intro (uGz_1556 b (2 * s)) (uGz_1557 (b + s) (2 * s))
theorem uGz_1559 (b s : Nat) : xall (fun _ a => a ∈ lw_tbl) 1 b s Gz_1559 := And.intro uz_902 uz_0
theorem uGz_1560 (b s : Nat) : xall (fun _ a => a ∈ lw_tbl) 1 b s Gz_1560 := And.intro uz_1926 uz_0
theorem uGz_1561 (b s : Nat) : xall (fun _ a => a ∈ lw_tbl) 2 b s Gz_1561 := And.intro (uGz_1559 b (2 * s)) (uGz_1560 (b + s) (2 * s))
theorem uGz_1562 (b s : Nat) : xall (fun _ a => a ∈ lw_tbl) 3 b s Gz_1562 := And.intro (uGz_1558 b (2 * s)) (uGz_1561 (b + s) (2 * s))
theorem uGz_1563 (b s : Nat) : xall (fun _ a => a ∈ lw_tbl) 4 b s Gz_1563 := And.intro (uGz_1555 b (2 * s)) (uGz_1562 (b + s) (2 * s))
theorem uGz_1564 (b s : Nat) : xall (fun _ a => a ∈ lw_tbl) 5 b s Gz_1564 := And.intro (uGz_1548 b (2 * s)) (uGz_1563 (b + s) (2 * s))
theorem uGz_1565 (b s : Nat) : xall (fun _ a => a ∈ lw_tbl) 1 b s Gz_1565 := And.intro uz_70 uz_2118
theorem uGz_1566 (b s : Nat) : xall (fun _ a => a ∈ lw_tbl) 1 b s Gz_1566 := And.intro uz_1094 uz_0
theorem uGz_1567 (b s : Nat) : xall (fun _ a => a ∈ lw_tbl) 2 b s Gz_1567 := And.intro (uGz_1565 b (2 * s)) (uGz_1566 (b + s) (2 * s))
theorem uGz_1568 (b s : Nat) : xall (fun _ a => a ∈ lw_tbl) 1 b s Gz_1568 := And.intro uz_582 uz_0
theorem uGz_1569 (b s : Nat) : xall (fun _ a => a ∈ lw_tbl) 1 b s Gz_1569 := And.intro uz_1606 uz_0
theorem uGz_1570 (b s : Nat) : xall (fun _ a => a ∈ lw_tbl) 2 b s Gz_1570 := And.intro (uGz_1568 b (2 * s)) (uGz_1569 (b + s) (2 * s))
theorem uGz_1571 (b s : Nat) : xall (fun _ a => a ∈ lw_tbl) 3 b s Gz_1571 := And.intro (uGz_1567 b (2 * s)) (uGz_1570 (b + s) (2 * s))
theorem uGz_1572 (b s : Nat) : xall (fun _ a => a ∈ lw_tbl) 1 b s Gz_1572 := And.intro uz_326 uz_0
theorem uGz_1573 (b s : Nat) : xall (fun _ a => a ∈ lw_tbl) 1 b s Gz_1573 := And.intro uz_1350 uz_0
theorem uGz_1574 (b s : Nat) : xall (fun _ a => a ∈ lw_tbl) 2 b s Gz_1574 := And.intro (uGz_1572 b (2 * s)) (uGz_1573 (b + s) (2 * s))
theorem uGz_1575 (b s : Nat) : xall (fun _ a => a ∈ lw_tbl) 1 b s Gz_1575 := And.intro uz_838 uz_0
theorem uGz_1576 (b s : Nat) : xall (fun _ a => a ∈ lw_tbl) 1 b s Gz_1576 := And.intro uz_1862 uz_0
theorem uGz_1577 (b s : Nat) : xall (fun _ a => a ∈ lw_tbl) 2 b s Gz_1577 := And.intro (uGz_1575 b (2 * s)) (uGz_1576 (b + s) (2 * s))
theorem uGz_1578 (b s : Nat) : xall (fun _ a => a ∈ lw_tbl) 3 b s Gz_1578 := And.intro (uGz_1574 b (2 * s)) (uGz_1577 (b + s) (2 * s))
theorem uGz_1579 (b s : Nat) : xall (fun _ a => a ∈ lw_tbl) 4 b s Gz_1579 := And.intro (uGz_1571 b (2 * s)) (uGz_1578 (b + s) (2 * s))
theorem uGz_1580 (b s : Nat) : xall (fun _ a => a ∈ lw_tbl) 1 b s Gz_1580 := And.intro uz_198 uz_2246
theorem uGz_1581 (b s : Nat) : xall (fun _ a => a ∈ lw_tbl) 1 b s Gz_1581 := And.intro uz_1222 uz_0
theorem uGz_1582 (b s : Nat) : xall (fun _ a => a ∈ lw_tbl) 2 b s Gz_1582 := And.intro (uGz_1580 b (2 * s)) (uGz_1581 (b + s) (2 * s))
theorem uGz_1583 (b s : Nat) : xall (fun _ a => a ∈ lw_tbl) 1 b s Gz_1583 := And.intro uz_710 uz_0
theorem uGz_1584 (b s : Nat) : xall (fun _ a => a ∈ lw_tbl) 1 b s Gz_1584 := And.intro uz_1734 uz_0
theorem uGz_1585 (b s : Nat) : xall (fun _ a => a ∈ lw_tbl) 2 b s Gz_1585 := And.intro (uGz_1583 b (2 * s)) (uGz_1584 (b + s) (2 * s))
theorem uGz_1586 (b s : Nat) : xall (fun _ a => a ∈ lw_tbl) 3 b s Gz_1586 := And.intro (uGz_1582 b (2 * s)) (uGz_1585 (b + s) (2 * s))
theorem uGz_1587 (b s : Nat) : xall (fun _ a => a ∈ lw_tbl) 1 b s Gz_1587 := And.intro uz_454 uz_0
theorem uGz_1588 (b s : Nat) : xall (fun _ a => a ∈ lw_tbl) 1 b s Gz_1588 := And.intro uz_1478 uz_0
theorem uGz_1589 (b s : Nat) : xall (fun _ a => a ∈ lw_tbl) 2 b s Gz_1589 := And.intro (uGz_1587 b (2 * s)) (uGz_1588 (b + s) (2 * s))
theorem uGz_1590 (b s : Nat) : xall (fun _ a => a ∈ lw_tbl) 1 b s Gz_1590 := And.intro uz_966 uz_0
theorem uGz_1591 (b s : Nat) : xall (fun _ a => a ∈ lw_tbl) 1 b s Gz_1591 := And.intro uz_1990 uz_0
theorem uGz_1592 (b s : Nat) : xall (fun _ a => a ∈ lw_tbl) 2 b s Gz_1592 := And.intro (uGz_1590 b (2 * s)) (uGz_1591 (b + s) (2 * s))
theorem uGz_1593 (b s : Nat) : xall (fun _ a => a ∈ lw_tbl) 3 b s Gz_1593 := And.intro (uGz_1589 b (2 * s)) (uGz_1592 (b + s) (2 * s))
theorem uGz_1594 (b s : Nat) : xall (fun _ a => a ∈ lw_tbl) 4 b s Gz_1594 := And.intro (uGz_1586 b (2 * s)) (uGz_1593 (b + s) (2 * s))
theorem uGz_1595 (b s : Nat) : xall (fun _ a => a ∈ lw_tbl) 5 b s Gz_1595 := And.intro (uGz_1579 b (2 * s)) (uGz_1594 (b + s) (2 * s))
theorem uGz_1596 (b s : Nat) : xall (fun _ a => a ∈ lw_tbl) 6 b s Gz_1596 := And.intro (uGz_1564 b (2 * s)) (uGz_1595 (b + s) (2 * s))
theorem uGz_1597 (b s : Nat) : xall (fun _ a => a ∈ lw_tbl) 1 b s Gz_1597 := And.intro uz_38 uz_2086
theorem uGz_1598 (b s : Nat) : xall (fun _ a => a ∈ lw_tbl) 1 b s Gz_1598 := And.intro uz_1062 uz_0
theorem uGz_1599 (b s : Nat) : xall (fun _ a => a ∈ lw_tbl) 2 b s Gz_1599 := And.intro (uGz_1597 b (2 * s)) (uGz_1598 (b + s) (2 * s))
theorem uGz_1600 (b s : Nat) : xall (fun _ a => a ∈ lw_tbl) 1 b s Gz_1600 := And.intro uz_550 uz_0
theorem uGz_1601 (b s : Nat) : xall (fun _ a => a ∈ lw_tbl) 1 b s Gz_1601 := And.intro uz_1574 uz_0
theorem uGz_1602 (b s : Nat) : xall (fun _ a => a ∈ lw_tbl) 2 b s Gz_1602 := And.intro (uGz_1600 b (2 * s)) (uGz_1601 (b + s) (2 * s))
theorem uGz_1603 (b s : Nat) : xall (fun _ a => a ∈ lw_tbl) 3 b s Gz_1603 := And.intro (uGz_1599 b (2 * s)) (uGz_1602 (b + s) (2 * s))
theorem uGz_1604 (b s : Nat) : xall (fun _ a => a ∈ lw_tbl) 1 b s Gz_1604 := And.intro uz_294 uz_0
theorem uGz_1605 (b s : Nat) : xall (fun _ a => a ∈ lw_tbl) 1 b s Gz_1605 := And.intro uz_1318 uz_0
theorem uGz_1606 (b s : Nat) : xall (fun _ a => a ∈ lw_tbl) 2 b s Gz_1606 := And.intro (uGz_1604 b (2 * s)) (uGz_1605 (b + s) (2 * s))
theorem uGz_1607 (b s : Nat) : xall (fun _ a => a ∈ lw_tbl) 1 b s Gz_1607 := And.intro uz_806 uz_0
theorem uGz_1608 (b s : Nat) : xall (fun _ a => a ∈ lw_tbl) 1 b s Gz_1608 := And.intro uz_1830 uz_0
theorem uGz_1609 (b s : Nat) : xall (fun _ a => a ∈ lw_tbl) 2 b s Gz_1609 := And.intro (uGz_1607 b (2 * s)) (uGz_1608 (b + s) (2 * s))
theorem uGz_1610 (b s : Nat) : xall (fun _ a => a ∈ lw_tbl) 3 b s Gz_1610 := And.intro (uGz_1606 b (2 * s)) (uGz_1609 (b + s) (2 * s))
theorem uGz_1611 (b s : Nat) : xall (fun _ a => a ∈ lw_tbl) 4 b s Gz_1611 := And.intro (uGz_1603 b (2 * s)) (uGz_1610 (b + s) (2 * s))
theorem uGz_1612 (b s : Nat) : xall (fun _ a => a ∈ lw_tbl) 1 b s Gz_1612 := And.intro uz_166 uz_2214
theorem uGz_1613 (b s : Nat) : xall (fun _ a => a ∈ lw_tbl) 1 b s Gz_1613 := And.intro uz_1190 uz_0
theorem uGz_1614 (b s : Nat) : xall (fun _ a => a ∈ lw_tbl) 2 b s Gz_1614 := And.intro (uGz_1612 b (2 * s)) (uGz_1613 (b + s) (2 * s))
theorem uGz_1615 (b s : Nat) : xall (fun _ a => a ∈ lw_tbl) 1 b s Gz_1615 := And.intro uz_678 uz_0
theorem uGz_1616 (b s : Nat) : xall (fun _ a => a ∈ lw_tbl) 1 b s Gz_1616 := And.intro uz_1702 uz_0
theorem uGz_1617 (b s : Nat) : xall (fun _ a => a ∈ lw_tbl) 2 b s Gz_1617 := And.intro (uGz_1615 b (2 * s)) (uGz_1616 (b + s) (2 * s))
theorem uGz_1618 (b s : Nat) : xall (fun _ a => a ∈ lw_tbl) 3 b s Gz_1618 := And.intro (uGz_1614 b (2 * s)) (uGz_1617 (b + s) (2 * s))
theorem uGz_1619 (b s : Nat) : xall (fun _ a => a ∈ lw_tbl) 1 b s Gz_1619 := And.intro uz_422 uz_0
theorem uGz_1620 (b s : Nat) : xall (fun _ a => a ∈ lw_tbl) 1 b s Gz_1620 := And.intro uz_1446 uz_0
theorem uGz_1621 (b s : Nat) : xall (fun _ a => a ∈ lw_tbl) 2 b s Gz_1621 := And.intro (uGz_1619 b (2 * s)) (uGz_1620 (b + s) (2 * s))
theorem uGz_1622 (b s : Nat) : xall (fun _ a => a ∈ lw_tbl) 1 b s Gz_1622 := And.intro uz_934 uz_0
theorem uGz_1623 (b s : Nat) : xall (fun _ a => a ∈ lw_tbl) 1 b s Gz_1623 := And.intro uz_1958 uz_0
theorem uGz_1624 (b s : Nat) : xall (fun _ a => a ∈ lw_tbl) 2 b s Gz_1624 := And.intro (uGz_1622 b (2 * s)) (uGz_1623 (b + s) (2 * s))
theorem uGz_1625 (b s : Nat) : xall (fun _ a => a ∈ lw_tbl) 3 b s Gz_1625 := And.intro (uGz_1621 b (2 * s)) (uGz_1624 (b + s) (2 * s))
theorem uGz_1626 (b s : Nat) : xall (fun _ a => a ∈ lw_tbl) 4 b s Gz_1626 := And.intro (uGz_1618 b (2 * s)) (uGz_1625 (b + s) (2 * s))
theorem uGz_1627 (b s : Nat) : xall (fun _ a => a ∈ lw_tbl) 5 b s Gz_1627 := And.intro (uGz_1611 b (2 * s)) (uGz_1626 (b + s) (2 * s))
theorem uGz_1628 (b s : Nat) : xall (fun _ a => a ∈ lw_tbl) 1 b s Gz_1628 := And.intro uz_102 uz_2150
theorem uGz_1629 (b s : Nat) : xall (fun _ a => a ∈ lw_tbl) 1 b s Gz_1629 := And.intro uz_1126 uz_0
theorem uGz_1630 (b s : Nat) : xall (fun _ a => a ∈ lw_tbl) 2 b s Gz_1630 := And.intro (uGz_1628 b (2 * s)) (uGz_1629 (b + s) (2 * s))
theorem uGz_1631 (b s : Nat) : xall (fun _ a => a ∈ lw_tbl) 1 b s Gz_1631 := And.intro uz_614 uz_0
theorem uGz_1632 (b s : Nat) : xall (fun _ a => a ∈ lw_tbl) 1 b s Gz_1632 := And.intro uz_1638 uz_0
theorem uGz_1633 (b s : Nat) : xall (fun _ a => a ∈ lw_tbl) 2 b s Gz_1633 := And.intro (uGz_1631 b (2 * s)) (uGz_1632 (b + s) (2 * s))
theorem uGz_1634 (b s : Nat) : xall (fun _ a => a ∈ lw_tbl) 3 b s Gz_1634 := And.intro (uGz_1630 b (2 * s)) (uGz_1633 (b + s) (2 * s))
theorem uGz_1635 (b s : Nat) : xall (fun _ a => a ∈ lw_tbl) 1 b s Gz_1635 := And.intro uz_358 uz_0
theorem uGz_1636 (b s : Nat) : xall (fun _ a => a ∈ lw_tbl) 1 b s Gz_1636 := And.intro uz_1382 uz_0
theorem uGz_1637 (b s : Nat) : xall (fun _ a => a ∈ lw_tbl) 2 b s Gz_1637 := And.intro (uGz_1635 b (2 * s)) (uGz_1636 (b + s) (2 * s))
theorem uGz_1638 (b s : Nat) : xall (fun _ a => a ∈ lw_tbl) 1 b s Gz_1638 := And.intro uz_870 uz_0
theorem uGz_1639 (b s : Nat) : xall (fun _ a => a ∈ lw_tbl) 1 b s Gz_1639 := And.intro uz_1894 uz_0
theorem uGz_1640 (b s : Nat) : xall (fun _ a => a ∈ lw_tbl) 2 b s Gz_1640 := And.intro (uGz_1638 b (2 * s)) (uGz_1639 (b + s) (2 * s))
theorem uGz_1641 (b s : Nat) : xall (fun _ a => a ∈ lw_tbl) 3 b s Gz_1641 := And.intro (uGz_1637 b (2 * s)) (uGz_1640 (b + s) (2 * s))
theorem uGz_1642 (b s : Nat) : xall (fun _ a => a ∈ lw_tbl) 4 b s Gz_1642 := And.intro (uGz_1634 b (2 * s)) (uGz_1641 (b + s) (2 * s))
theorem uGz_1643 (b s : Nat) : xall (fun _ a => a ∈ lw_tbl) 1 b s Gz_1643 := And.intro uz_230 uz_0
theorem uGz_1644 (b s : Nat) : xall (fun _ a => a ∈ lw_tbl) 1 b s Gz_1644 := And.intro uz_1254 uz_0
theorem uGz_1645 (b s : Nat) : xall (fun _ a => a ∈ lw_tbl) 2 b s Gz_1645 := And.intro (uGz_1643 b (2 * s)) (uGz_1644 (b + s) (2 * s))
theorem uGz_1646 (b s : Nat) : xall (fun _ a => a ∈ lw_tbl) 1 b s Gz_1646 := And.intro uz_742 uz_0
theorem uGz_1647 (b s : Nat) : xall (fun _ a => a ∈ lw_tbl) 1 b s Gz_1647 := And.intro uz_1766 uz_0
theorem uGz_1648 (b s : Nat) : xall (fun _ a => a ∈ lw_tbl) 2 b s Gz_1648 := And.intro (uGz_1646 b (2 * s)) (uGz_1647 (b + s) (2 * s))
theorem uGz_1649 (b s : Nat) : xall (fun _ a => a ∈ lw_tbl) 3 b s Gz_1649 := And.intro (uGz_1645 b (2 * s)) (uGz_1648 (b + s) (2 * s))
theorem uGz_1650 (b s : Nat) : xall (fun _ a => a ∈ lw_tbl) 1 b s Gz_1650 := And.intro uz_486 uz_0
theorem uGz_1651 (b s : Nat) : xall (fun _ a => a ∈ lw_tbl) 1 b s Gz_1651 := And.intro uz_1510 uz_0
theorem uGz_1652 (b s : Nat) : xall (fun _ a => a ∈ lw_tbl) 2 b s Gz_1652 := And.intro (uGz_1650 b (2 * s)) (uGz_1651 (b + s) (2 * s))
theorem uGz_1653 (b s : Nat) : xall (fun _ a => a ∈ lw_tbl) 1 b s Gz_1653 := And.intro uz_998 uz_0
theorem uGz_1654 (b s : Nat) : xall (fun _ a => a ∈ lw_tbl) 1 b s Gz_1654 := And.intro uz_2022 uz_0
theorem uGz_1655 (b s : Nat) : xall (fun _ a => a ∈ lw_tbl) 2 b s Gz_1655 := And.intro (uGz_1653 b (2 * s)) (uGz_1654 (b + s) (2 * s))
theorem uGz_1656 (b s : Nat) : xall (fun _ a => a ∈ lw_tbl) 3 b s Gz_1656 := And.intro (uGz_1652 b (2 * s)) (uGz_1655 (b + s) (2 * s))
theorem uGz_1657 (b s : Nat) : xall (fun _ a => a ∈ lw_tbl) 4 b s Gz_1657 := And.intro (uGz_1649 b (2 * s)) (uGz_1656 (b + s) (2 * s))
theorem uGz_1658 (b s : Nat) : xall (fun _ a => a ∈ lw_tbl) 5 b s Gz_1658 := And.intro (uGz_1642 b (2 * s)) (uGz_1657 (b + s) (2 * s))
theorem uGz_1659 (b s : Nat) : xall (fun _ a => a ∈ lw_tbl) 6 b s Gz_1659 := And.intro (uGz_1627 b (2 * s)) (uGz_1658 (b + s) (2 * s))
theorem uGz_1660 (b s : Nat) : xall (fun _ a => a ∈ lw_tbl) 7 b s Gz_1660 := And.intro (uGz_1596 b (2 * s)) (uGz_1659 (b + s) (2 * s))
theorem uGz_1661 (b s : Nat) : xall (fun _ a => a ∈ lw_tbl) 1 b s Gz_1661 := And.intro uz_22 uz_2070
theorem uGz_1662 (b s : Nat) : xall (fun _ a => a ∈ lw_tbl) 1 b s Gz_1662 := And.intro uz_1046 uz_0
theorem uGz_1663 (b s : Nat) : xall (fun _ a => a ∈ lw_tbl) 2 b s Gz_1663 := And.intro (uGz_1661 b (2 * s)) (uGz_1662 (b + s) (2 * s))
theorem uGz_1664 (b s : Nat) : xall (fun _ a => a ∈ lw_tbl) 1 b s Gz_1664 := And.intro uz_534 uz_0
theorem uGz_1665 (b s : Nat) : xall (fun _ a => a ∈ lw_tbl) 1 b s Gz_1665 := And.intro uz_1558 uz_0
theorem uGz_1666 (b s : Nat) : xall (fun _ a => a ∈ lw_tbl) 2 b s Gz_1666 := And.intro (uGz_1664 b (2 * s)) (uGz_1665 (b + s) (2 * s))
theorem uGz_1667 (b s : Nat) : xall (fun _ a => a ∈ lw_tbl) 3 b s Gz_1667 := And.intro (uGz_1663 b (2 * s)) (uGz_1666 (b + s) (2 * s))
theorem uGz_1668 (b s : Nat) : xall (fun _ a => a ∈ lw_tbl) 1 b s Gz_1668 := And.intro uz_278 uz_0
theorem uGz_1669 (b s : Nat) : xall (fun _ a => a ∈ lw_tbl) 1 b s Gz_1669 := And.intro uz_1302 uz_0
theorem uGz_1670 (b s : Nat) : xall (fun _ a => a ∈ lw_tbl) 2 b s Gz_1670 := And.intro (uGz_1668 b (2 * s)) (uGz_1669 (b + s) (2 * s))
theorem uGz_1671 (b s : Nat) : xall (fun _ a => a ∈ lw_tbl) 1 b s Gz_1671 := And.intro uz_790 uz_0
theorem uGz_1672 (b s : Nat) : xall (fun _ a => a ∈ lw_tbl) 1 b s Gz_1672 := And.intro uz_1814 uz_0
theorem uGz_1673 (b s : Nat) : xall (fun _ a => a ∈ lw_tbl) 2 b s Gz_1673 := And.intro (uGz_1671 b (2 * s)) (uGz_1672 (b + s) (2 * s))
theorem uGz_1674 (b s : Nat) : xall (fun _ a => a ∈ lw_tbl) 3 b s Gz_1674 := And.intro (uGz_1670 b (2 * s)) (uGz_1673 (b + s) (2 * s))
theorem uGz_1675 (b s : Nat) : xall (fun _ a => a ∈ lw_tbl) 4 b s Gz_1675 := And.intro (uGz_1667 b (2 * s)) (uGz_1674 (b + s) (2 * s))
theorem uGz_1676 (b s : Nat) : xall (fun _ a => a ∈ lw_tbl) 1 b s Gz_1676 := And.intro uz_150 uz_2198
theorem uGz_1677 (b s : Nat) : xall (fun _ a => a ∈ lw_tbl) 1 b s Gz_1677 := And.intro uz_1174 uz_0
theorem uGz_1678 (b s : Nat) : xall (fun _ a => a ∈ lw_tbl) 2 b s Gz_1678 := And.intro (uGz_1676 b (2 * s)) (uGz_1677 (b + s) (2 * s))
theorem uGz_1679 (b s : Nat) : xall (fun _ a => a ∈ lw_tbl) 1 b s Gz_1679 := And.intro uz_662 uz_0
theorem uGz_1680 (b s : Nat) : xall (fun _ a => a ∈ lw_tbl) 1 b s Gz_1680 := And.intro uz_1686 uz_0
theorem uGz_1681 (b s : Nat) : xall (fun _ a => a ∈ lw_tbl) 2 b s Gz_1681 := And.intro (uGz_1679 b (2 * s)) (uGz_1680 (b + s) (2 * s))
theorem uGz_1682 (b s : Nat) : xall (fun _ a => a ∈ lw_tbl) 3 b s Gz_1682 := And.intro (uGz_1678 b (2 * s)) (uGz_1681 (b + s) (2 * s))
theorem uGz_1683 (b s : Nat) : xall (fun _ a => a ∈ lw_tbl) 1 b s Gz_1683 := And.intro uz_406 uz_0
theorem uGz_1684 (b s : Nat) : xall (fun _ a => a ∈ lw_tbl) 1 b s Gz_1684 := And.intro uz_1430 uz_0
theorem uGz_1685 (b s : Nat) : xall (fun _ a => a ∈ lw_tbl) 2 b s Gz_1685 := And.intro (uGz_1683 b (2 * s)) (uGz_1684 (b + s) (2 * s))
theorem uGz_1686 (b s : Nat) : xall (fun _ a => a ∈ lw_tbl) 1 b s Gz_1686 := And.intro uz_918 uz_0
theorem uGz_1687 (b s : Nat) : xall (fun _ a => a ∈ lw_tbl) 1 b s Gz_1687 := And.intro uz_1942 uz_0
theorem uGz_1688 (b s : Nat) : xall (fun _ a => a ∈ lw_tbl) 2 b s Gz_1688 := And.intro (uGz_1686 b (2 * s)) (uGz_1687 (b + s) (2 * s))
theorem uGz_1689 (b s : Nat) : xall (fun _ a => a ∈ lw_tbl) 3 b s Gz_1689 := And.intro (uGz_1685 b (2 * s)) (uGz_1688 (b + s) (2 * s))
theorem uGz_1690 (b s : Nat) : xall (fun _ a => a ∈ lw_tbl) 4 b s Gz_1690 := And.intro (uGz_1682 b (2 * s)) (uGz_1689 (b + s) (2 * s))
theorem uGz_1691 (b s : Nat) : xall (fun _ a => a ∈ lw_tbl) 5 b s Gz_1691 := And.intro (uGz_1675 b (2 * s)) (uGz_1690 (b + s) (2 * s))
theorem uGz_1692 (b s : Nat) : xall (fun _ a => a ∈ lw_tbl) 1 b s Gz_1692 := And.intro uz_86 uz_2134
theorem uGz_1693 (b s : Nat) : xall (fun _ a => a ∈ lw_tbl) 1 b s Gz_1693 := And.intro uz_1110 uz_0
theorem uGz_1694 (b s : Nat) : xall (fun _ a => a ∈ lw_tbl) 2 b s Gz_1694 := And.intro (uGz_1692 b (2 * s)) (uGz_1693 (b + s) (2 * s))
theorem uGz_1695 (b s : Nat) : xall (fun _ a => a ∈ lw_tbl) 1 b s Gz_1695 := And.intro uz_598 uz_0
theorem uGz_1696 (b s : Nat) : xall (fun _ a => a ∈ lw_tbl) 1 b s Gz_1696 := And.intro uz_1622 uz_0
theorem uGz_1697 (b s : Nat) : xall (fun _ a => a ∈ lw_tbl) 2 b s Gz_1697 := And.intro (uGz_1695 b (2 * s)) (uGz_1696 (b + s) (2 * s))
theorem uGz_1698 (b s : Nat) : xall (fun _ a => a ∈ lw_tbl) 3 b s Gz_1698 := And.intro (uGz_1694 b (2 * s)) (uGz_1697 (b + s) (2 * s))
theorem uGz_1699 (b s : Nat) : xall (fun _ a => a ∈ lw_tbl) 1 b s Gz_1699 := And.intro uz_342 uz_0
theorem uGz_1700 (b s : Nat) : xall (fun _ a => a ∈ lw_tbl) 1 b s Gz_1700 := And.intro uz_1366 uz_0
theorem uGz_1701 (b s : Nat) : xall (fun _ a => a ∈ lw_tbl) 2 b s Gz_1701 := And.intro (uGz_1699 b (2 * s)) (uGz_1700 (b + s) (2 * s))
theorem uGz_1702 (b s : Nat) : xall (fun _ a => a ∈ lw_tbl) 1 b s Gz_1702 := And.intro uz_854 uz_0
theorem uGz_1703 (b s : Nat) : xall (fun _ a => a ∈ lw_tbl) 1 b s Gz_1703 := And.intro uz_1878 uz_0
theorem uGz_1704 (b s : Nat) : xall (fun _ a => a ∈ lw_tbl) 2 b s Gz_1704 := And.intro (uGz_1702 b (2 * s)) (uGz_1703 (b + s) (2 * s))
theorem uGz_1705 (b s : Nat) : xall (fun _ a => a ∈ lw_tbl) 3 b s Gz_1705 := And.intro (uGz_1701 b (2 * s)) (uGz_1704 (b + s) (2 * s))
theorem uGz_1706 (b s : Nat) : xall (fun _ a => a ∈ lw_tbl) 4 b s Gz_1706 := And.intro (uGz_1698 b (2 * s)) (uGz_1705 (b + s) (2 * s))
theorem uGz_1707 (b s : Nat) : xall (fun _ a => a ∈ lw_tbl) 1 b s Gz_1707 := And.intro uz_214 uz_2262
theorem uGz_1708 (b s : Nat) : xall (fun _ a => a ∈ lw_tbl) 1 b s Gz_1708 := And.intro uz_1238 uz_0
theorem uGz_1709 (b s : Nat) : xall (fun _ a => a ∈ lw_tbl) 2 b s Gz_1709 := And.intro (uGz_1707 b (2 * s)) (uGz_1708 (b + s) (2 * s))
theorem uGz_1710 (b s : Nat) : xall (fun _ a => a ∈ lw_tbl) 1 b s Gz_1710 := And.intro uz_726 uz_0
theorem uGz_1711 (b s : Nat) : xall (fun _ a => a ∈ lw_tbl) 1 b s Gz_1711 := And.intro uz_1750 uz_0
theorem uGz_1712 (b s : Nat) : xall (fun _ a => a ∈ lw_tbl) 2 b s Gz_1712 := And.intro (uGz_1710 b (2 * s)) (uGz_1711 (b + s) (2 * s))
theorem uGz_1713 (b s : Nat) : xall (fun _ a => a ∈ lw_tbl) 3 b s Gz_1713 := And.intro (uGz_1709 b (2 * s)) (uGz_1712 (b + s) (2 * s))
theorem uGz_1714 (b s : Nat) : xall (fun _ a => a ∈ lw_tbl) 1 b s Gz_1714 := And.intro uz_470 uz_0
theorem uGz_1715 (b s : Nat) : xall (fun _ a => a ∈ lw_tbl) 1 b s Gz_1715 := And.intro uz_1494 uz_0
theorem uGz_1716 (b s : Nat) : xall (fun _ a => a ∈ lw_tbl) 2 b s Gz_1716 := And.intro (uGz_1714 b (2 * s)) (uGz_1715 (b + s) (2 * s))
theorem uGz_1717 (b s : Nat) : xall (fun _ a => a ∈ lw_tbl) 1 b s Gz_1717 := And.intro uz_982 uz_0
theorem uGz_1718 (b s : Nat) : xall (fun _ a => a ∈ lw_tbl) 1 b s Gz_1718 := And.intro uz_2006 uz_0
theorem uGz_1719 (b s : Nat) : xall (fun _ a => a ∈ lw_tbl) 2 b s Gz_1719 := And.intro (uGz_1717 b (2 * s)) (uGz_1718 (b + s) (2 * s))
theorem uGz_1720 (b s : Nat) : xall (fun _ a => a ∈ lw_tbl) 3 b s Gz_1720 := And.intro (uGz_1716 b (2 * s)) (uGz_1719 (b + s) (2 * s))
theorem uGz_1721 (b s : Nat) : xall (fun _ a => a ∈ lw_tbl) 4 b s Gz_1721 := And.intro (uGz_1713 b (2 * s)) (uGz_1720 (b + s) (2 * s))
theorem uGz_1722 (b s : Nat) : xall (fun _ a => a ∈ lw_tbl) 5 b s Gz_1722 := And.intro (uGz_1706 b (2 * s)) (uGz_1721 (b + s) (2 * s))
theorem uGz_1723 (b s : Nat) : xall (fun _ a => a ∈ lw_tbl) 6 b s Gz_1723 := And.intro (uGz_1691 b (2 * s)) (uGz_1722 (b + s) (2 * s))
theorem uGz_1724 (b s : Nat) : xall (fun _ a => a ∈ lw_tbl) 1 b s Gz_1724 := And.intro uz_54 uz_2102
theorem uGz_1725 (b s : Nat) : xall (fun _ a => a ∈ lw_tbl) 1 b s Gz_1725 := And.intro uz_1078 uz_0
theorem uGz_1726 (b s : Nat) : xall (fun _ a => a ∈ lw_tbl) 2 b s Gz_1726 := And.intro (uGz_1724 b (2 * s)) (uGz_1725 (b + s) (2 * s))
theorem uGz_1727 (b s : Nat) : xall (fun _ a => a ∈ lw_tbl) 1 b s Gz_1727 := And.intro uz_566 uz_0
theorem uGz_1728 (b s : Nat) : xall (fun _ a => a ∈ lw_tbl) 1 b s Gz_1728 := And.intro uz_1590 uz_0
theorem uGz_1729 (b s : Nat) : xall (fun _ a => a ∈ lw_tbl) 2 b s Gz_1729 := And.intro (uGz_1727 b (2 * s)) (uGz_1728 (b + s) (2 * s))
theorem uGz_1730 (b s : Nat) : xall (fun _ a => a ∈ lw_tbl) 3 b s Gz_1730 := And.intro (uGz_1726 b (2 * s)) (uGz_1729 (b + s) (2 * s))
theorem uGz_1731 (b s : Nat) : xall (fun _ a => a ∈ lw_tbl) 1 b s Gz_1731 := And.intro uz_310 uz_0
theorem uGz_1732 (b s : Nat) : xall (fun _ a => a ∈ lw_tbl) 1 b s Gz_1732 := And.intro uz_1334 uz_0
theorem uGz_1733 (b s : Nat) : xall (fun _ a => a ∈ lw_tbl) 2 b s Gz_1733 := And.intro (uGz_1731 b (2 * s)) (uGz_1732 (b + s) (2 * s))
theorem uGz_1734 (b s : Nat) : xall (fun _ a => a ∈ lw_tbl) 1 b s Gz_1734 := And.intro uz_822 uz_0
theorem uGz_1735 (b s : Nat) : xall (fun _ a => a ∈ lw_tbl) 1 b s Gz_1735 := And.intro uz_1846 uz_0
theorem uGz_1736 (b s : Nat) : xall (fun _ a => a ∈ lw_tbl) 2 b s Gz_1736 := And.intro (uGz_1734 b (2 * s)) (uGz_1735 (b + s) (2 * s))
theorem uGz_1737 (b s : Nat) : xall (fun _ a => a ∈ lw_tbl) 3 b s Gz_1737 := And.intro (uGz_1733 b (2 * s)) (uGz_1736 (b + s) (2 * s))
theorem uGz_1738 (b s : Nat) : xall (fun _ a => a ∈ lw_tbl) 4 b s Gz_1738 := And.intro (uGz_1730 b (2 * s)) (uGz_1737 (b + s) (2 * s))
theorem uGz_1739 (b s : Nat) : xall (fun _ a => a ∈ lw_tbl) 1 b s Gz_1739 := And.intro uz_182 uz_2230
theorem uGz_1740 (b s : Nat) : xall (fun _ a => a ∈ lw_tbl) 1 b s Gz_1740 := And.intro uz_1206 uz_0
theorem uGz_1741 (b s : Nat) : xall (fun _ a => a ∈ lw_tbl) 2 b s Gz_1741 := And.intro (uGz_1739 b (2 * s)) (uGz_1740 (b + s) (2 * s))
theorem uGz_1742 (b s : Nat) : xall (fun _ a => a ∈ lw_tbl) 1 b s Gz_1742 := And.intro uz_694 uz_0
theorem uGz_1743 (b s : Nat) : xall (fun _ a => a ∈ lw_tbl) 1 b s Gz_1743 := And.intro uz_1718 uz_0
theorem uGz_1744 (b s : Nat) : xall (fun _ a => a ∈ lw_tbl) 2 b s Gz_1744 := And.intro (uGz_1742 b (2 * s)) (uGz_1743 (b + s) (2 * s))
theorem uGz_1745 (b s : Nat) : xall (fun _ a => a ∈ lw_tbl) 3 b s Gz_1745 := And.intro (uGz_1741 b (2 * s)) (uGz_1744 (b + s) (2 * s))
theorem uGz_1746 (b s : Nat) : xall (fun _ a => a ∈ lw_tbl) 1 b s Gz_1746 := And.intro uz_438 uz_0
theorem uGz_1747 (b s : Nat) : xall (fun _ a => a ∈ lw_tbl) 1 b s Gz_1747 := And.intro uz_1462 uz_0
theorem uGz_1748 (b s : Nat) : xall (fun _ a => a ∈ lw_tbl) 2 b s Gz_1748 := And.intro (uGz_1746 b (2 * s)) (uGz_1747 (b + s) (2 * s))
theorem uGz_1749 (b s : Nat) : xall (fun _ a => a ∈ lw_tbl) 1 b s Gz_1749 := And.intro uz_950 uz_0
theorem uGz_1750 (b s : Nat) : xall (fun _ a => a ∈ lw_tbl) 1 b s Gz_1750 := And.intro uz_1974 uz_0
theorem uGz_1751 (b s : Nat) : xall (fun _ a => a ∈ lw_tbl) 2 b s Gz_1751 := And.intro (uGz_1749 b (2 * s)) (uGz_1750 (b + s) (2 * s))
theorem uGz_1752 (b s : Nat) : xall (fun _ a => a ∈ lw_tbl) 3 b s Gz_1752 := And.intro (uGz_1748 b (2 * s)) (uGz_1751 (b + s) (2 * s))
theorem uGz_1753 (b s : Nat) : xall (fun _ a => a ∈ lw_tbl) 4 b s Gz_1753 := And.intro (uGz_1745 b (2 * s)) (uGz_1752 (b + s) (2 * s))
theorem uGz_1754 (b s : Nat) : xall (fun _ a => a ∈ lw_tbl) 5 b s Gz_1754 := And.intro (uGz_1738 b (2 * s)) (uGz_1753 (b + s) (2 * s))
theorem uGz_1755 (b s : Nat) : xall (fun _ a => a ∈ lw_tbl) 1 b s Gz_1755 := And.intro uz_118 uz_2166
theorem uGz_1756 (b s : Nat) : xall (fun _ a => a ∈ lw_tbl) 1 b s Gz_1756 := And.intro uz_1142 uz_0
theorem uGz_1757 (b s : Nat) : xall (fun _ a => a ∈ lw_tbl) 2 b s Gz_1757 := And.intro (uGz_1755 b (2 * s)) (uGz_1756 (b + s) (2 * s))
theorem uGz_1758 (b s : Nat) : xall (fun _ a => a ∈ lw_tbl) 1 b s Gz_1758 := And.intro uz_630 uz_0
theorem uGz_1759 (b s : Nat) : xall (fun _ a => a ∈ lw_tbl) 1 b s Gz_1759 := And.intro uz_1654 uz_0
theorem uGz_1760 (b s : Nat) : xall (fun _ a => a ∈ lw_tbl) 2 b s Gz_1760 := And.intro (uGz_1758 b (2 * s)) (uGz_1759 (b + s) (2 * s))
theorem uGz_1761 (b s : Nat) : xall (fun _ a => a ∈ lw_tbl) 3 b s Gz_1761 := And.intro (uGz_1757 b (2 * s)) (uGz_1760 (b + s) (2 * s))
theorem uGz_1762 (b s : Nat) : xall (fun _ a => a ∈ lw_tbl) 1 b s Gz_1762 := And.intro uz_374 uz_0
theorem uGz_1763 (b s : Nat) : xall (fun _ a => a ∈ lw_tbl) 1 b s Gz_1763 := And.intro uz_1398 uz_0
theorem uGz_1764 (b s : Nat) : xall (fun _ a => a ∈ lw_tbl) 2 b s Gz_1764 := And.intro (uGz_1762 b (2 * s)) (uGz_1763 (b + s) (2 * s))
theorem uGz_1765 (b s : Nat) : xall (fun _ a => a ∈ lw_tbl) 1 b s Gz_1765 := And.intro uz_886 uz_0
theorem uGz_1766 (b s : Nat) : xall (fun _ a => a ∈ lw_tbl) 1 b s Gz_1766 := And.intro uz_1910 uz_0
theorem uGz_1767 (b s : Nat) : xall (fun _ a => a ∈ lw_tbl) 2 b s Gz_1767 := And.intro (uGz_1765 b (2 * s)) (uGz_1766 (b + s) (2 * s))
theorem uGz_1768 (b s : Nat) : xall (fun _ a => a ∈ lw_tbl) 3 b s Gz_1768 := And.intro (uGz_1764 b (2 * s)) (uGz_1767 (b + s) (2 * s))
theorem uGz_1769 (b s : Nat) : xall (fun _ a => a ∈ lw_tbl) 4 b s Gz_1769 := And.intro (uGz_1761 b (2 * s)) (uGz_1768 (b + s) (2 * s))
theorem uGz_1770 (b s : Nat) : xall (fun _ a => a ∈ lw_tbl) 1 b s Gz_1770 := And.intro uz_246 uz_0
theorem uGz_1771 (b s : Nat) : xall (fun _ a => a ∈ lw_tbl) 1 b s Gz_1771 := And.intro uz_1270 uz_0
theorem uGz_1772 (b s : Nat) : xall (fun _ a => a ∈ lw_tbl) 2 b s Gz_1772 := And.intro (uGz_1770 b (2 * s)) (uGz_1771 (b + s) (2 * s))
theorem uGz_1773 (b s : Nat) : xall (fun _ a => a ∈ lw_tbl) 1 b s Gz_1773 := And.intro uz_758 uz_0
theorem uGz_1774 (b s : Nat) : xall (fun _ a => a ∈ lw_tbl) 1 b s Gz_1774 := And.intro uz_1782 uz_0
theorem uGz_1775 (b s : Nat) : xall (fun _ a => a ∈ lw_tbl) 2 b s Gz_1775 := And.intro (uGz_1773 b (2 * s)) (uGz_1774 (b + s) (2 * s))
theorem uGz_1776 (b s : Nat) : xall (fun _ a => a ∈ lw_tbl) 3 b s Gz_1776 := And.intro (uGz_1772 b (2 * s)) (uGz_1775 (b + s) (2 * s))
theorem uGz_1777 (b s : Nat) : xall (fun _ a => a ∈ lw_tbl) 1 b s Gz_1777 := And.intro uz_502 uz_0
theorem uGz_1778 (b s : Nat) : xall (fun _ a => a ∈ lw_tbl) 1 b s Gz_1778 := And.intro uz_1526 uz_0
theorem uGz_1779 (b s : Nat) : xall (fun _ a => a ∈ lw_tbl) 2 b s Gz_1779 := And.intro (uGz_1777 b (2 * s)) (uGz_1778 (b + s) (2 * s))
theorem uGz_1780 (b s : Nat) : xall (fun _ a => a ∈ lw_tbl) 1 b s Gz_1780 := And.intro uz_1014 uz_0
theorem uGz_1781 (b s : Nat) : xall (fun _ a => a ∈ lw_tbl) 1 b s Gz_1781 := And.intro uz_2038 uz_0
theorem uGz_1782 (b s : Nat) : xall (fun _ a => a ∈ lw_tbl) 2 b s Gz_1782 := And.intro (uGz_1780 b (2 * s)) (uGz_1781 (b + s) (2 * s))
theorem uGz_1783 (b s : Nat) : xall (fun _ a => a ∈ lw_tbl) 3 b s Gz_1783 := And.intro (uGz_1779 b (2 * s)) (uGz_1782 (b + s) (2 * s))
theorem uGz_1784 (b s : Nat) : xall (fun _ a => a ∈ lw_tbl) 4 b s Gz_1784 := And.intro (uGz_1776 b (2 * s)) (uGz_1783 (b + s) (2 * s))
theorem uGz_1785 (b s : Nat) : xall (fun _ a => a ∈ lw_tbl) 5 b s Gz_1785 := And.intro (uGz_1769 b (2 * s)) (uGz_1784 (b + s) (2 * s))
theorem uGz_1786 (b s : Nat) : xall (fun _ a => a ∈ lw_tbl) 6 b s Gz_1786 := And.intro (uGz_1754 b (2 * s)) (uGz_1785 (b + s) (2 * s))
theorem uGz_1787 (b s : Nat) : xall (fun _ a => a ∈ lw_tbl) 7 b s Gz_1787 := And.intro (uGz_1723 b (2 * s)) (uGz_1786 (b + s) (2 * s))
theorem uGz_1788 (b s : Nat) : xall (fun _ a => a ∈ lw_tbl) 8 b s Gz_1788 := And.intro (uGz_1660 b (2 * s)) (uGz_1787 (b + s) (2 * s))
theorem uGz_1789 (b s : Nat) : xall (fun _ a => a ∈ lw_tbl) 1 b s Gz_1789 := And.intro uz_14 uz_2062
theorem uGz_1790 (b s : Nat) : xall (fun _ a => a ∈ lw_tbl) 1 b s Gz_1790 := And.intro uz_1038 uz_0
theorem uGz_1791 (b s : Nat) : xall (fun _ a => a ∈ lw_tbl) 2 b s Gz_1791 := And.intro (uGz_1789 b (2 * s)) (uGz_1790 (b + s) (2 * s))
theorem uGz_1792 (b s : Nat) : xall (fun _ a => a ∈ lw_tbl) 1 b s Gz_1792 := And.intro uz_526 uz_0
theorem uGz_1793 (b s : Nat) : xall (fun _ a => a ∈ lw_tbl) 1 b s Gz_1793 := And.intro uz_1550 uz_0
theorem uGz_1794 (b s : Nat) : xall (fun _ a => a ∈ lw_tbl) 2 b s Gz_1794 := And.intro (uGz_1792 b (2 * s)) (uGz_1793 (b + s) (2 * s))
theorem uGz_1795 (b s : Nat) : xall (fun _ a => a ∈ lw_tbl) 3 b s Gz_1795 := And.intro (uGz_1791 b (2 * s)) (uGz_1794 (b + s) (2 * s))
theorem uGz_1796 (b s : Nat) : xall (fun _ a => a ∈ lw_tbl) 1 b s Gz_1796 := And.intro uz_270 uz_0
theorem uGz_1797 (b s : Nat) : xall (fun _ a => a ∈ lw_tbl) 1 b s Gz_1797 := And.intro uz_1294 uz_0
theorem uGz_1798 (b s : Nat) : xall (fun _ a => a ∈ lw_tbl) 2 b s Gz_1798 := And.intro (uGz_1796 b (2 * s)) (uGz_1797 (b + s) (2 * s))
theorem uGz_1799 (b s : Nat) : xall (fun _ a => a ∈ lw_tbl) 1 b s Gz_1799 := And.intro uz_782 uz_0
theorem uGz_1800 (b s : Nat) : xall (fun _ a => a ∈ lw_tbl) 1 b s Gz_1800 := And.intro uz_1806 uz_0
theorem uGz_1801 (b s : Nat) : xall (fun _ a => a ∈ lw_tbl) 2 b s Gz_1801 := And.intro (uGz_1799 b (2 * s)) (uGz_1800 (b + s) (2 * s))
theorem uGz_1802 (b s : Nat) : xall (fun _ a => a ∈ lw_tbl) 3 b s Gz_1802 := And.intro (uGz_1798 b (2 * s)) (uGz_1801 (b + s) (2 * s))
theorem uGz_1803 (b s : Nat) : xall (fun _ a => a ∈ lw_tbl) 4 b s Gz_1803 := And.intro (uGz_1795 b (2 * s)) (uGz_1802 (b + s) (2 * s))
theorem uGz_1804 (b s : Nat) : xall (fun _ a => a ∈ lw_tbl) 1 b s Gz_1804 := And.intro uz_142 uz_2190
theorem uGz_1805 (b s : Nat) : xall (fun _ a => a ∈ lw_tbl) 1 b s Gz_1805 := And.intro uz_1166 uz_0
theorem uGz_1806 (b s : Nat) : xall (fun _ a => a ∈ lw_tbl) 2 b s Gz_1806 := And.intro (uGz_1804 b (2 * s)) (uGz_1805 (b + s) (2 * s))
theorem uGz_1807 (b s : Nat) : xall (fun _ a => a ∈ lw_tbl) 1 b s Gz_1807 := And.intro uz_654 uz_0
theorem uGz_1808 (b s : Nat) : xall (fun _ a => a ∈ lw_tbl) 1 b s Gz_1808 := And.intro uz_1678 uz_0
theorem uGz_1809 (b s : Nat) : xall (fun _ a => a ∈ lw_tbl) 2 b s Gz_1809 := And.intro (uGz_1807 b (2 * s)) (uGz_1808 (b + s) (2 * s))
theorem uGz_1810 (b s : Nat) : xall (fun _ a => a ∈ lw_tbl) 3 b s Gz_1810 := And.intro (uGz_1806 b (2 * s)) (uGz_1809 (b + s) (2 * s))
theorem uGz_1811 (b s : Nat) : xall (fun _ a => a ∈ lw_tbl) 1 b s Gz_1811 := And.intro uz_398 uz_0
theorem uGz_1812 (b s : Nat) : xall (fun _ a => a ∈ lw_tbl) 1 b s Gz_1812 := And.intro uz_1422 uz_0
theorem uGz_1813 (b s : Nat) : xall (fun _ a => a ∈ lw_tbl) 2 b s Gz_1813 := And.intro (uGz_1811 b (2 * s)) (uGz_1812 (b + s) (2 * s))
theorem uGz_1814 (b s : Nat) : xall (fun _ a => a ∈ lw_tbl) 1 b s Gz_1814 := And.intro uz_910 uz_0
theorem uGz_1815 (b s : Nat) : xall (fun _ a => a ∈ lw_tbl) 1 b s Gz_1815 := And.intro uz_1934 uz_0
theorem uGz_1816 (b s : Nat) : xall (fun _ a => a ∈ lw_tbl) 2 b s Gz_1816 := And.intro (uGz_1814 b (2 * s)) (uGz_1815 (b + s) (2 * s))
theorem uGz_1817 (b s : Nat) : xall (fun _ a => a ∈ lw_tbl) 3 b s Gz_1817 := And.intro (uGz_1813 b (2 * s)) (uGz_1816 (b + s) (2 * s))
theorem uGz_1818 (b s : Nat) : xall (fun _ a => a ∈ lw_tbl) 4 b s Gz_1818 := And.intro (uGz_1810 b (2 * s)) (uGz_1817 (b + s) (2 * s))
theorem uGz_1819 (b s : Nat) : xall (fun _ a => a ∈ lw_tbl) 5 b s Gz_1819 := And.intro (uGz_1803 b (2 * s)) (uGz_1818 (b + s) (2 * s))
theorem uGz_1820 (b s : Nat) : xall (fun _ a => a ∈ lw_tbl) 1 b s Gz_1820 := And.intro uz_78 uz_2126
theorem uGz_1821 (b s : Nat) : xall (fun _ a => a ∈ lw_tbl) 1 b s Gz_1821 := And.intro uz_1102 uz_0
theorem uGz_1822 (b s : Nat) : xall (fun _ a => a ∈ lw_tbl) 2 b s Gz_1822 := And.intro (uGz_1820 b (2 * s)) (uGz_1821 (b + s) (2 * s))
theorem uGz_1823 (b s : Nat) : xall (fun _ a => a ∈ lw_tbl) 1 b s Gz_1823 := And.intro uz_590 uz_0
theorem uGz_1824 (b s : Nat) : xall (fun _ a => a ∈ lw_tbl) 1 b s Gz_1824 := And.intro uz_1614 uz_0
theorem uGz_1825 (b s : Nat) : xall (fun _ a => a ∈ lw_tbl) 2 b s Gz_1825 := And.intro (uGz_1823 b (2 * s)) (uGz_1824 (b + s) (2 * s))
theorem uGz_1826 (b s : Nat) : xall (fun _ a => a ∈ lw_tbl) 3 b s Gz_1826 := And.intro (uGz_1822 b (2 * s)) (uGz_1825 (b + s) (2 * s))
theorem uGz_1827 (b s : Nat) : xall (fun _ a => a ∈ lw_tbl) 1 b s Gz_1827 := And.intro uz_334 uz_0
theorem uGz_1828 (b s : Nat) : xall (fun _ a => a ∈ lw_tbl) 1 b s Gz_1828 := And.intro uz_1358 uz_0
theorem uGz_1829 (b s : Nat) : xall (fun _ a => a ∈ lw_tbl) 2 b s Gz_1829 := And.intro (uGz_1827 b (2 * s)) (uGz_1828 (b + s) (2 * s))
theorem uGz_1830 (b s : Nat) : xall (fun _ a => a ∈ lw_tbl) 1 b s Gz_1830 := And.intro uz_846 uz_0
theorem uGz_1831 (b s : Nat) : xall (fun _ a => a ∈ lw_tbl) 1 b s Gz_1831 := And.intro uz_1870 uz_0
theorem uGz_1832 (b s : Nat) : xall (fun _ a => a ∈ lw_tbl) 2 b s Gz_1832 := And.intro (uGz_1830 b (2 * s)) (uGz_1831 (b + s) (2 * s))
theorem uGz_1833 (b s : Nat) : xall (fun _ a => a ∈ lw_tbl) 3 b s Gz_1833 := And.intro (uGz_1829 b (2 * s)) (uGz_1832 (b + s) (2 * s))
theorem uGz_1834 (b s : Nat) : xall (fun _ a => a ∈ lw_tbl) 4 b s Gz_1834 := And.intro (uGz_1826 b (2 * s)) (uGz_1833 (b + s) (2 * s))
theorem uGz_1835 (b s : Nat) : xall (fun _ a => a ∈ lw_tbl) 1 b s Gz_1835 := And.intro uz_206 uz_2254
theorem uGz_1836 (b s : Nat) : xall (fun _ a => a ∈ lw_tbl) 1 b s Gz_1836 := And.intro uz_1230 uz_0
theorem uGz_1837 (b s : Nat) : xall (fun _ a => a ∈ lw_tbl) 2 b s Gz_1837 := And.intro (uGz_1835 b (2 * s)) (uGz_1836 (b + s) (2 * s))
theorem uGz_1838 (b s : Nat) : xall (fun _ a => a ∈ lw_tbl) 1 b s Gz_1838 := And.intro uz_718 uz_0
theorem uGz_1839 (b s : Nat) : xall (fun _ a => a ∈ lw_tbl) 1 b s Gz_1839 := And.intro uz_1742 uz_0
theorem uGz_1840 (b s : Nat) : xall (fun _ a => a ∈ lw_tbl) 2 b s Gz_1840 := And.intro (uGz_1838 b (2 * s)) (uGz_1839 (b + s) (2 * s))
theorem uGz_1841 (b s : Nat) : xall (fun _ a => a ∈ lw_tbl) 3 b s Gz_1841 := And.intro (uGz_1837 b (2 * s)) (uGz_1840 (b + s) (2 * s))
theorem uGz_1842 (b s : Nat) : xall (fun _ a => a ∈ lw_tbl) 1 b s Gz_1842 := And.intro uz_462 uz_0
theorem uGz_1843 (b s : Nat) : xall (fun _ a => a ∈ lw_tbl) 1 b s Gz_1843 := And.intro uz_1486 uz_0
theorem uGz_1844 (b s : Nat) : xall (fun _ a => a ∈ lw_tbl) 2 b s Gz_1844 := And.intro (uGz_1842 b (2 * s)) (uGz_1843 (b + s) (2 * s))
theorem uGz_1845 (b s : Nat) : xall (fun _ a => a ∈ lw_tbl) 1 b s Gz_1845 := And.intro uz_974 uz_0
theorem uGz_1846 (b s : Nat) : xall (fun _ a => a ∈ lw_tbl) 1 b s Gz_1846 := And.intro uz_1998 uz_0
theorem uGz_1847 (b s : Nat) : xall (fun _ a => a ∈ lw_tbl) 2 b s Gz_1847 := And.intro (uGz_1845 b (2 * s)) (uGz_1846 (b + s) (2 * s))
theorem uGz_1848 (b s : Nat) : xall (fun _ a => a ∈ lw_tbl) 3 b s Gz_1848 := And.intro (uGz_1844 b (2 * s)) (uGz_1847 (b + s) (2 * s))
theorem uGz_1849 (b s : Nat) : xall (fun _ a => a ∈ lw_tbl) 4 b s Gz_1849 := And.intro (uGz_1841 b (2 * s)) (uGz_1848 (b + s) (2 * s))
theorem uGz_1850 (b s : Nat) : xall (fun _ a => a ∈ lw_tbl) 5 b s Gz_1850 := And.intro (uGz_1834 b (2 * s)) (uGz_1849 (b + s) (2 * s))
theorem uGz_1851 (b s : Nat) : xall (fun _ a => a ∈ lw_tbl) 6 b s Gz_1851 := And.intro (uGz_1819 b (2 * s)) (uGz_1850 (b + s) (2 * s))
theorem uGz_1852 (b s : Nat) : xall (fun _ a => a ∈ lw_tbl) 1 b s Gz_1852 := And.intro uz_46 uz_2094
theorem uGz_1853 (b s : Nat) : xall (fun _ a => a ∈ lw_tbl) 1 b s Gz_1853 := And.intro uz_1070 uz_0
theorem uGz_1854 (b s : Nat) : xall (fun _ a => a ∈ lw_tbl) 2 b s Gz_1854 := And.intro (uGz_1852 b (2 * s)) (uGz_1853 (b + s) (2 * s))
theorem uGz_1855 (b s : Nat) : xall (fun _ a => a ∈ lw_tbl) 1 b s Gz_1855 := And.intro uz_558 uz_0
theorem uGz_1856 (b s : Nat) : xall (fun _ a => a ∈ lw_tbl) 1 b s Gz_1856 := And.intro uz_1582 uz_0
theorem uGz_1857 (b s : Nat) : xall (fun _ a => a ∈ lw_tbl) 2 b s Gz_1857 := And.intro (uGz_1855 b (2 * s)) (uGz_1856 (b + s) (2 * s))
theorem uGz_1858 (b s : Nat) : xall (fun _ a => a ∈ lw_tbl) 3 b s Gz_1858 := And.intro (uGz_1854 b (2 * s)) (uGz_1857 (b + s) (2 * s))
theorem uGz_1859 (b s : Nat) : xall (fun _ a => a ∈ lw_tbl) 1 b s Gz_1859 := And.intro uz_302 uz_0
theorem uGz_1860 (b s : Nat) : xall (fun _ a => a ∈ lw_tbl) 1 b s Gz_1860 := And.intro uz_1326 uz_0
theorem uGz_1861 (b s : Nat) : xall (fun _ a => a ∈ lw_tbl) 2 b s Gz_1861 := And.intro (uGz_1859 b (2 * s)) (uGz_1860 (b + s) (2 * s))
theorem uGz_1862 (b s : Nat) : xall (fun _ a => a ∈ lw_tbl) 1 b s Gz_1862 := And.intro uz_814 uz_0
theorem uGz_1863 (b s : Nat) : xall (fun _ a => a ∈ lw_tbl) 1 b s Gz_1863 := And.intro uz_1838 uz_0
theorem uGz_1864 (b s : Nat) : xall (fun _ a => a ∈ lw_tbl) 2 b s Gz_1864 := And.intro (uGz_1862 b (2 * s)) (uGz_1863 (b + s) (2 * s))
theorem uGz_1865 (b s : Nat) : xall (fun _ a => a ∈ lw_tbl) 3 b s Gz_1865 := And.intro (uGz_1861 b (2 * s)) (uGz_1864 (b + s) (2 * s))
theorem uGz_1866 (b s : Nat) : xall (fun _ a => a ∈ lw_tbl) 4 b s Gz_1866 := And.intro (uGz_1858 b (2 * s)) (uGz_1865 (b + s) (2 * s))
theorem uGz_1867 (b s : Nat) : xall (fun _ a => a ∈ lw_tbl) 1 b s Gz_1867 := And.intro uz_174 uz_2222
theorem uGz_1868 (b s : Nat) : xall (fun _ a => a ∈ lw_tbl) 1 b s Gz_1868 := And.intro uz_1198 uz_0
theorem uGz_1869 (b s : Nat) : xall (fun _ a => a ∈ lw_tbl) 2 b s Gz_1869 := And.intro (uGz_1867 b (2 * s)) (uGz_1868 (b + s) (2 * s))
theorem uGz_1870 (b s : Nat) : xall (fun _ a => a ∈ lw_tbl) 1 b s Gz_1870 := And.intro uz_686 uz_0
theorem uGz_1871 (b s : Nat) : xall (fun _ a => a ∈ lw_tbl) 1 b s Gz_1871 := And.intro uz_1710 uz_0
theorem uGz_1872 (b s : Nat) : xall (fun _ a => a ∈ lw_tbl) 2 b s Gz_1872 := And.intro (uGz_1870 b (2 * s)) (uGz_1871 (b + s) (2 * s))
theorem uGz_1873 (b s : Nat) : xall (fun _ a => a ∈ lw_tbl) 3 b s Gz_1873 := And.intro (uGz_1869 b (2 * s)) (uGz_1872 (b + s) (2 * s))
theorem uGz_1874 (b s : Nat) : xall (fun _ a => a ∈ lw_tbl) 1 b s Gz_1874 := And.intro uz_430 uz_0
theorem uGz_1875 (b s : Nat) : xall (fun _ a => a ∈ lw_tbl) 1 b s Gz_1875 := And.intro uz_1454 uz_0
theorem uGz_1876 (b s : Nat) : xall (fun _ a => a ∈ lw_tbl) 2 b s Gz_1876 := And.intro (uGz_1874 b (2 * s)) (uGz_1875 (b + s) (2 * s))
theorem uGz_1877 (b s : Nat) : xall (fun _ a => a ∈ lw_tbl) 1 b s Gz_1877 := And.intro uz_942 uz_0
theorem uGz_1878 (b s : Nat) : xall (fun _ a => a ∈ lw_tbl) 1 b s Gz_1878 := And.intro uz_1966 uz_0
theorem uGz_1879 (b s : Nat) : xall (fun _ a => a ∈ lw_tbl) 2 b s Gz_1879 := And.intro (uGz_1877 b (2 * s)) (uGz_1878 (b + s) (2 * s))
theorem uGz_1880 (b s : Nat) : xall (fun _ a => a ∈ lw_tbl) 3 b s Gz_1880 := And.intro (uGz_1876 b (2 * s)) (uGz_1879 (b + s) (2 * s))
theorem uGz_1881 (b s : Nat) : xall (fun _ a => a ∈ lw_tbl) 4 b s Gz_1881 := And.intro (uGz_1873 b (2 * s)) (uGz_1880 (b + s) (2 * s))
theorem uGz_1882 (b s : Nat) : xall (fun _ a => a ∈ lw_tbl) 5 b s Gz_1882 := And.intro (uGz_1866 b (2 * s)) (uGz_1881 (b + s) (2 * s))
theorem uGz_1883 (b s : Nat) : xall (fun _ a => a ∈ lw_tbl) 1 b s Gz_1883 := And.intro uz_110 uz_2158
theorem uGz_1884 (b s : Nat) : xall (fun _ a => a ∈ lw_tbl) 1 b s Gz_1884 := And.intro uz_1134 uz_0
theorem uGz_1885 (b s : Nat) : xall (fun _ a => a ∈ lw_tbl) 2 b s Gz_1885 := And.intro (uGz_1883 b (2 * s)) (uGz_1884 (b + s) (2 * s))
theorem uGz_1886 (b s : Nat) : xall (fun _ a => a ∈ lw_tbl) 1 b s Gz_1886 := And.intro uz_622 uz_0
theorem uGz_1887 (b s : Nat) : xall (fun _ a => a ∈ lw_tbl) 1 b s Gz_1887 := And.intro uz_1646 uz_0
theorem uGz_1888 (b s : Nat) : xall (fun _ a => a ∈ lw_tbl) 2 b s Gz_1888 := And.intro (uGz_1886 b (2 * s)) (uGz_1887 (b + s) (2 * s))
theorem uGz_1889 (b s : Nat) : xall (fun _ a => a ∈ lw_tbl) 3 b s Gz_1889 := And.intro (uGz_1885 b (2 * s)) (uGz_1888 (b + s) (2 * s))
theorem uGz_1890 (b s : Nat) : xall (fun _ a => a ∈ lw_tbl) 1 b s Gz_1890 := And.intro uz_366 uz_0
theorem uGz_1891 (b s : Nat) : xall (fun _ a => a ∈ lw_tbl) 1 b s Gz_1891 := And.intro uz_1390 uz_0
theorem uGz_1892 (b s : Nat) : xall (fun _ a => a ∈ lw_tbl) 2 b s Gz_1892 := And.intro (uGz_1890 b (2 * s)) (uGz_1891 (b + s) (2 * s))
theorem uGz_1893 (b s : Nat) : xall (fun _ a => a ∈ lw_tbl) 1 b s Gz_1893 := And.intro uz_878 uz_0
theorem uGz_1894 (b s : Nat) : xall (fun _ a => a ∈ lw_tbl) 1 b s Gz_1894 := And.intro uz_1902 uz_0
theorem uGz_1895 (b s : Nat) : xall (fun _ a => a ∈ lw_tbl) 2 b s Gz_1895 := And.intro (uGz_1893 b (2 * s)) (uGz_1894 (b + s) (2 * s))
theorem uGz_1896 (b s : Nat) : xall (fun _ a => a ∈ lw_tbl) 3 b s Gz_1896 := And.intro (uGz_1892 b (2 * s)) (uGz_1895 (b + s) (2 * s))
theorem uGz_1897 (b s : Nat) : xall (fun _ a => a ∈ lw_tbl) 4 b s Gz_1897 := And.intro (uGz_1889 b (2 * s)) (uGz_1896 (b + s) (2 * s))
theorem uGz_1898 (b s : Nat) : xall (fun _ a => a ∈ lw_tbl) 1 b s Gz_1898 := And.intro uz_238 uz_0
theorem uGz_1899 (b s : Nat) : xall (fun _ a => a ∈ lw_tbl) 1 b s Gz_1899 := And.intro uz_1262 uz_0
theorem uGz_1900 (b s : Nat) : xall (fun _ a => a ∈ lw_tbl) 2 b s Gz_1900 := And.intro (uGz_1898 b (2 * s)) (uGz_1899 (b + s) (2 * s))
theorem uGz_1901 (b s : Nat) : xall (fun _ a => a ∈ lw_tbl) 1 b s Gz_1901 := And.intro uz_750 uz_0
theorem uGz_1902 (b s : Nat) : xall (fun _ a => a ∈ lw_tbl) 1 b s Gz_1902 := And.intro uz_1774 uz_0
theorem uGz_1903 (b s : Nat) : xall (fun _ a => a ∈ lw_tbl) 2 b s Gz_1903 := And.intro (uGz_1901 b (2 * s)) (uGz_1902 (b + s) (2 * s))
theorem uGz_1904 (b s : Nat) : xall (fun _ a => a ∈ lw_tbl) 3 b s Gz_1904 := And.intro (uGz_1900 b (2 * s)) (uGz_1903 (b + s) (2 * s))
theorem uGz_1905 (b s : Nat) : xall (fun _ a => a ∈ lw_tbl) 1 b s Gz_1905 := And.intro uz_494 uz_0
theorem uGz_1906 (b s : Nat) : xall (fun _ a => a ∈ lw_tbl) 1 b s Gz_1906 := And.intro uz_1518 uz_0
theorem uGz_1907 (b s : Nat) : xall (fun _ a => a ∈ lw_tbl) 2 b s Gz_1907 := And.intro (uGz_1905 b (2 * s)) (uGz_1906 (b + s) (2 * s))
theorem uGz_1908 (b s : Nat) : xall (fun _ a => a ∈ lw_tbl) 1 b s Gz_1908 := And.intro uz_1006 uz_0
theorem uGz_1909 (b s : Nat) : xall (fun _ a => a ∈ lw_tbl) 1 b s Gz_1909 := And.intro uz_2030 uz_0
theorem uGz_1910 (b s : Nat) : xall (fun _ a => a ∈ lw_tbl) 2 b s Gz_1910 := And.intro (uGz_1908 b (2 * s)) (uGz_1909 (b + s) (2 * s))
theorem uGz_1911 (b s : Nat) : xall (fun _ a => a ∈ lw_tbl) 3 b s Gz_1911 := And.intro (uGz_1907 b (2 * s)) (uGz_1910 (b + s) (2 * s))
theorem uGz_1912 (b s : Nat) : xall (fun _ a => a ∈ lw_tbl) 4 b s Gz_1912 := And.intro (uGz_1904 b (2 * s)) (uGz_1911 (b + s) (2 * s))
theorem uGz_1913 (b s : Nat) : xall (fun _ a => a ∈ lw_tbl) 5 b s Gz_1913 := And.intro (uGz_1897 b (2 * s)) (uGz_1912 (b + s) (2 * s))
theorem uGz_1914 (b s : Nat) : xall (fun _ a => a ∈ lw_tbl) 6 b s Gz_1914 := And.intro (uGz_1882 b (2 * s)) (uGz_1913 (b + s) (2 * s))
theorem uGz_1915 (b s : Nat) : xall (fun _ a => a ∈ lw_tbl) 7 b s Gz_1915 := And.intro (uGz_1851 b (2 * s)) (uGz_1914 (b + s) (2 * s))
theorem uGz_1916 (b s : Nat) : xall (fun _ a => a ∈ lw_tbl) 1 b s Gz_1916 := And.intro uz_30 uz_2078
theorem uGz_1917 (b s : Nat) : xall (fun _ a => a ∈ lw_tbl) 1 b s Gz_1917 := And.intro uz_1054 uz_0
theorem uGz_1918 (b s : Nat) : xall (fun _ a => a ∈ lw_tbl) 2 b s Gz_1918 := And.intro (uGz_1916 b (2 * s)) (uGz_1917 (b + s) (2 * s))
theorem uGz_1919 (b s : Nat) : xall (fun _ a => a ∈ lw_tbl) 1 b s Gz_1919 := And.intro uz_542 uz_0
theorem uGz_1920 (b s : Nat) : xall (fun _ a => a ∈ lw_tbl) 1 b s Gz_1920 := And.intro uz_1566 uz_0
theorem uGz_1921 (b s : Nat) : xall (fun _ a => a ∈ lw_tbl) 2 b s Gz_1921 := And.intro (uGz_1919 b (2 * s)) (uGz_1920 (b + s) (2 * s))
theorem uGz_1922 (b s : Nat) : xall (fun _ a => a ∈ lw_tbl) 3 b s Gz_1922 := And.intro (uGz_1918 b (2 * s)) (uGz_1921 (b + s) (2 * s))
theorem uGz_1923 (b s : Nat) : xall (fun _ a => a ∈ lw_tbl) 1 b s Gz_1923 := And.intro uz_286 uz_0
theorem uGz_1924 (b s : Nat) : xall (fun _ a => a ∈ lw_tbl) 1 b s Gz_1924 := And.intro uz_1310 uz_0
theorem uGz_1925 (b s : Nat) : xall (fun _ a => a ∈ lw_tbl) 2 b s Gz_1925 := And.intro (uGz_1923 b (2 * s)) (uGz_1924 (b + s) (2 * s))
theorem uGz_1926 (b s : Nat) : xall (fun _ a => a ∈ lw_tbl) 1 b s Gz_1926 := And.intro uz_798 uz_0
theorem uGz_1927 (b s : Nat) : xall (fun _ a => a ∈ lw_tbl) 1 b s Gz_1927 := And.intro uz_1822 uz_0
theorem uGz_1928 (b s : Nat) : xall (fun _ a => a ∈ lw_tbl) 2 b s Gz_1928 := And.intro (uGz_1926 b (2 * s)) (uGz_1927 (b + s) (2 * s))
theorem uGz_1929 (b s : Nat) : xall (fun _ a => a ∈ lw_tbl) 3 b s Gz_1929 := And.intro (uGz_1925 b (2 * s)) (uGz_1928 (b + s) (2 * s))
theorem uGz_1930 (b s : Nat) : xall (fun _ a => a ∈ lw_tbl) 4 b s Gz_1930 := And.intro (uGz_1922 b (2 * s)) (uGz_1929 (b + s) (2 * s))
theorem uGz_1931 (b s : Nat) : xall (fun _ a => a ∈ lw_tbl) 1 b s Gz_1931 := And.intro uz_158 uz_2206
theorem uGz_1932 (b s : Nat) : xall (fun _ a => a ∈ lw_tbl) 1 b s Gz_1932 := And.intro uz_1182 uz_0
theorem uGz_1933 (b s : Nat) : xall (fun _ a => a ∈ lw_tbl) 2 b s Gz_1933 := And.intro (uGz_1931 b (2 * s)) (uGz_1932 (b + s) (2 * s))
theorem uGz_1934 (b s : Nat) : xall (fun _ a => a ∈ lw_tbl) 1 b s Gz_1934 := And.intro uz_670 uz_0
theorem uGz_1935 (b s : Nat) : xall (fun _ a => a ∈ lw_tbl) 1 b s Gz_1935 := And.intro uz_1694 uz_0
theorem uGz_1936 (b s : Nat) : xall (fun _ a => a ∈ lw_tbl) 2 b s Gz_1936 := And.intro (uGz_1934 b (2 * s)) (uGz_1935 (b + s) (2 * s))
theorem uGz_1937 (b s : Nat) : xall (fun _ a => a ∈ lw_tbl) 3 b s Gz_1937 := And.intro (uGz_1933 b (2 * s)) (uGz_1936 (b + s) (2 * s))
theorem uGz_1938 (b s : Nat) : xall (fun _ a => a ∈ lw_tbl) 1 b s Gz_1938 := And.intro uz_414 uz_0
theorem uGz_1939 (b s : Nat) : xall (fun _ a => a ∈ lw_tbl) 1 b s Gz_1939 := And.intro uz_1438 uz_0
theorem uGz_1940 (b s : Nat) : xall (fun _ a => a ∈ lw_tbl) 2 b s Gz_1940 := And.intro (uGz_1938 b (2 * s)) (uGz_1939 (b + s) (2 * s))
theorem uGz_1941 (b s : Nat) : xall (fun _ a => a ∈ lw_tbl) 1 b s Gz_1941 := And.intro uz_926 uz_0
theorem uGz_1942 (b s : Nat) : xall (fun _ a => a ∈ lw_tbl) 1 b s Gz_1942 := And.intro uz_1950 uz_0
theorem uGz_1943 (b s : Nat) : xall (fun _ a => a ∈ lw_tbl) 2 b s Gz_1943 := And.intro (uGz_1941 b (2 * s)) (uGz_1942 (b + s) (2 * s))
theorem uGz_1944 (b s : Nat) : xall (fun _ a => a ∈ lw_tbl) 3 b s Gz_1944 := And.intro (uGz_1940 b (2 * s)) (uGz_1943 (b + s) (2 * s))
theorem uGz_1945 (b s : Nat) : xall (fun _ a => a ∈ lw_tbl) 4 b s Gz_1945 := And.intro (uGz_1937 b (2 * s)) (uGz_1944 (b + s) (2 * s))
theorem uGz_1946 (b s : Nat) : xall (fun _ a => a ∈ lw_tbl) 5 b s Gz_1946 := And.intro (uGz_1930 b (2 * s)) (uGz_1945 (b + s) (2 * s))
theorem uGz_1947 (b s : Nat) : xall (fun _ a => a ∈ lw_tbl) 1 b s Gz_1947 := And.intro uz_94 uz_2142
theorem uGz_1948 (b s : Nat) : xall (fun _ a => a ∈ lw_tbl) 1 b s Gz_1948 := And.intro uz_1118 uz_0
theorem uGz_1949 (b s : Nat) : xall (fun _ a => a ∈ lw_tbl) 2 b s Gz_1949 := And.intro (uGz_1947 b (2 * s)) (uGz_1948 (b + s) (2 * s))
theorem uGz_1950 (b s : Nat) : xall (fun _ a => a ∈ lw_tbl) 1 b s Gz_1950 := And.intro uz_606 uz_0
theorem uGz_1951 (b s : Nat) : xall (fun _ a => a ∈ lw_tbl) 1 b s Gz_1951 := And.intro uz_1630 uz_0
theorem uGz_1952 (b s : Nat) : xall (fun _ a => a ∈ lw_tbl) 2 b s Gz_1952 := And.intro (uGz_1950 b (2 * s)) (uGz_1951 (b + s) (2 * s))
theorem uGz_1953 (b s : Nat) : xall (fun _ a => a ∈ lw_tbl) 3 b s Gz_1953 := And.intro (uGz_1949 b (2 * s)) (uGz_1952 (b + s) (2 * s))
theorem uGz_1954 (b s : Nat) : xall (fun _ a => a ∈ lw_tbl) 1 b s Gz_1954 := And.intro uz_350 uz_0
theorem uGz_1955 (b s : Nat) : xall (fun _ a => a ∈ lw_tbl) 1 b s Gz_1955 := And.intro uz_1374 uz_0
theorem uGz_1956 (b s : Nat) : xall (fun _ a => a ∈ lw_tbl) 2 b s Gz_1956 := And.intro (uGz_1954 b (2 * s)) (uGz_1955 (b + s) (2 * s))
theorem uGz_1957 (b s : Nat) : xall (fun _ a => a ∈ lw_tbl) 1 b s Gz_1957 := And.intro uz_862 uz_0
theorem uGz_1958 (b s : Nat) : xall (fun _ a => a ∈ lw_tbl) 1 b s Gz_1958 := And.intro uz_1886 uz_0
theorem uGz_1959 (b s : Nat) : xall (fun _ a => a ∈ lw_tbl) 2 b s Gz_1959 := And.intro (uGz_1957 b (2 * s)) (uGz_1958 (b + s) (2 * s))
theorem uGz_1960 (b s : Nat) : xall (fun _ a => a ∈ lw_tbl) 3 b s Gz_1960 := And.intro (uGz_1956 b (2 * s)) (uGz_1959 (b + s) (2 * s))
theorem uGz_1961 (b s : Nat) : xall (fun _ a => a ∈ lw_tbl) 4 b s Gz_1961 := And.intro (uGz_1953 b (2 * s)) (uGz_1960 (b + s) (2 * s))
theorem uGz_1962 (b s : Nat) : xall (fun _ a => a ∈ lw_tbl) 1 b s Gz_1962 := And.intro uz_222 uz_0
theorem uGz_1963 (b s : Nat) : xall (fun _ a => a ∈ lw_tbl) 1 b s Gz_1963 := And.intro uz_1246 uz_0
theorem uGz_1964 (b s : Nat) : xall (fun _ a => a ∈ lw_tbl) 2 b s Gz_1964 := And.intro (uGz_1962 b (2 * s)) (uGz_1963 (b + s) (2 * s))
theorem uGz_1965 (b s : Nat) : xall (fun _ a => a ∈ lw_tbl) 1 b s Gz_1965 := And.intro uz_734 uz_0
theorem uGz_1966 (b s : Nat) : xall (fun _ a => a ∈ lw_tbl) 1 b s Gz_1966 := And.intro uz_1758 uz_0
theorem uGz_1967 (b s : Nat) : xall (fun _ a => a ∈ lw_tbl) 2 b s Gz_1967 := And.intro (uGz_1965 b (2 * s)) (uGz_1966 (b + s) (2 * s))
theorem uGz_1968 (b s : Nat) : xall (fun _ a => a ∈ lw_tbl) 3 b s Gz_1968 := And.intro (uGz_1964 b (2 * s)) (uGz_1967 (b + s) (2 * s))
theorem uGz_1969 (b s : Nat) : xall (fun _ a => a ∈ lw_tbl) 1 b s Gz_1969 := And.intro uz_478 uz_0
theorem uGz_1970 (b s : Nat) : xall (fun _ a => a ∈ lw_tbl) 1 b s Gz_1970 := And.intro uz_1502 uz_0
theorem uGz_1971 (b s : Nat) : xall (fun _ a => a ∈ lw_tbl) 2 b s Gz_1971 := And.intro (uGz_1969 b (2 * s)) (uGz_1970 (b + s) (2 * s))
theorem uGz_1972 (b s : Nat) : xall (fun _ a => a ∈ lw_tbl) 1 b s Gz_1972 := And.intro uz_990 uz_0
theorem uGz_1973 (b s : Nat) : xall (fun _ a => a ∈ lw_tbl) 1 b s Gz_1973 := And.intro uz_2014 uz_0
theorem uGz_1974 (b s : Nat) : xall (fun _ a => a ∈ lw_tbl) 2 b s Gz_1974 := And.intro (uGz_1972 b (2 * s)) (uGz_1973 (b + s) (2 * s))
theorem uGz_1975 (b s : Nat) : xall (fun _ a => a ∈ lw_tbl) 3 b s Gz_1975 := And.intro (uGz_1971 b (2 * s)) (uGz_1974 (b + s) (2 * s))
theorem uGz_1976 (b s : Nat) : xall (fun _ a => a ∈ lw_tbl) 4 b s Gz_1976 := And.intro (uGz_1968 b (2 * s)) (uGz_1975 (b + s) (2 * s))
theorem uGz_1977 (b s : Nat) : xall (fun _ a => a ∈ lw_tbl) 5 b s Gz_1977 := And.intro (uGz_1961 b (2 * s)) (uGz_1976 (b + s) (2 * s))
theorem uGz_1978 (b s : Nat) : xall (fun _ a => a ∈ lw_tbl) 6 b s Gz_1978 := And.intro (uGz_1946 b (2 * s)) (uGz_1977 (b + s) (2 * s))
theorem uGz_1979 (b s : Nat) : xall (fun _ a => a ∈ lw_tbl) 1 b s Gz_1979 := And.intro uz_62 uz_2110
theorem uGz_1980 (b s : Nat) : xall (fun _ a => a ∈ lw_tbl) 1 b s Gz_1980 := And.intro uz_1086 uz_0
theorem uGz_1981 (b s : Nat) : xall (fun _ a => a ∈ lw_tbl) 2 b s Gz_1981 := And.intro (uGz_1979 b (2 * s)) (uGz_1980 (b + s) (2 * s))
theorem uGz_1982 (b s : Nat) : xall (fun _ a => a ∈ lw_tbl) 1 b s Gz_1982 := And.intro uz_574 uz_0
theorem uGz_1983 (b s : Nat) : xall (fun _ a => a ∈ lw_tbl) 1 b s Gz_1983 := And.intro uz_1598 uz_0
theorem uGz_1984 (b s : Nat) : xall (fun _ a => a ∈ lw_tbl) 2 b s Gz_1984 := And.intro (uGz_1982 b (2 * s)) (uGz_1983 (b + s) (2 * s))
theorem uGz_1985 (b s : Nat) : xall (fun _ a => a ∈ lw_tbl) 3 b s Gz_1985 := And.intro (uGz_1981 b (2 * s)) (uGz_1984 (b + s) (2 * s))
theorem uGz_1986 (b s : Nat) : xall (fun _ a => a ∈ lw_tbl) 1 b s Gz_1986 := And.intro uz_318 uz_0
theorem uGz_1987 (b s : Nat) : xall (fun _ a => a ∈ lw_tbl) 1 b s Gz_1987 := And.intro uz_1342 uz_0
theorem uGz_1988 (b s : Nat) : xall (fun _ a => a ∈ lw_tbl) 2 b s Gz_1988 := And.intro (uGz_1986 b (2 * s)) (uGz_1987 (b + s) (2 * s))
theorem uGz_1989 (b s : Nat) : xall (fun _ a => a ∈ lw_tbl) 1 b s Gz_1989 := And.intro uz_830 uz_0
theorem uGz_1990 (b s : Nat) : xall (fun _ a => a ∈ lw_tbl) 1 b s Gz_1990 := And.intro uz_1854 uz_0
theorem uGz_1991 (b s : Nat) : xall (fun _ a => a ∈ lw_tbl) 2 b s Gz_1991 := And.intro (uGz_1989 b (2 * s)) (uGz_1990 (b + s) (2 * s))
theorem uGz_1992 (b s : Nat) : xall (fun _ a => a ∈ lw_tbl) 3 b s Gz_1992 := And.intro (uGz_1988 b (2 * s)) (uGz_1991 (b + s) (2 * s))
theorem uGz_1993 (b s : Nat) : xall (fun _ a => a ∈ lw_tbl) 4 b s Gz_1993 := And.intro (uGz_1985 b (2 * s)) (uGz_1992 (b + s) (2 * s))
theorem uGz_1994 (b s : Nat) : xall (fun _ a => a ∈ lw_tbl) 1 b s Gz_1994 := And.intro uz_190 uz_2238
theorem uGz_1995 (b s : Nat) : xall (fun _ a => a ∈ lw_tbl) 1 b s Gz_1995 := And.intro uz_1214 uz_0
theorem uGz_1996 (b s : Nat) : xall (fun _ a => a ∈ lw_tbl) 2 b s Gz_1996 := And.intro (uGz_1994 b (2 * s)) (uGz_1995 (b + s) (2 * s))
theorem uGz_1997 (b s : Nat) : xall (fun _ a => a ∈ lw_tbl) 1 b s Gz_1997 := And.intro uz_702 uz_0
theorem uGz_1998 (b s : Nat) : xall (fun _ a => a ∈ lw_tbl) 1 b s Gz_1998 := And.intro uz_1726 uz_0
theorem uGz_1999 (b s : Nat) : xall (fun _ a => a ∈ lw_tbl) 2 b s Gz_1999 := And.intro (uGz_1997 b (2 * s)) (uGz_1998 (b + s) (2 * s))
theorem uGz_2000 (b s : Nat) : xall (fun _ a => a ∈ lw_tbl) 3 b s Gz_2000 := And.intro (uGz_1996 b (2 * s)) (uGz_1999 (b + s) (2 * s))
theorem uGz_2001 (b s : Nat) : xall (fun _ a => a ∈ lw_tbl) 1 b s Gz_2001 := And.intro uz_446 uz_0
theorem uGz_2002 (b s : Nat) : xall (fun _ a => a ∈ lw_tbl) 1 b s Gz_2002 := And.intro uz_1470 uz_0
theorem uGz_2003 (b s : Nat) : xall (fun _ a => a ∈ lw_tbl) 2 b s Gz_2003 := And.intro (uGz_2001 b (2 * s)) (uGz_2002 (b + s) (2 * s))
theorem uGz_2004 (b s : Nat) : xall (fun _ a => a ∈ lw_tbl) 1 b s Gz_2004 := And.intro uz_958 uz_0
theorem uGz_2005 (b s : Nat) : xall (fun _ a => a ∈ lw_tbl) 1 b s Gz_2005 := And.intro uz_1982 uz_0
theorem uGz_2006 (b s : Nat) : xall (fun _ a => a ∈ lw_tbl) 2 b s Gz_2006 := And.intro (uGz_2004 b (2 * s)) (uGz_2005 (b + s) (2 * s))
theorem uGz_2007 (b s : Nat) : xall (fun _ a => a ∈ lw_tbl) 3 b s Gz_2007 := And.intro (uGz_2003 b (2 * s)) (uGz_2006 (b + s) (2 * s))
theorem uGz_2008 (b s : Nat) : xall (fun _ a => a ∈ lw_tbl) 4 b s Gz_2008 := And.intro (uGz_2000 b (2 * s)) (uGz_2007 (b + s) (2 * s))
theorem uGz_2009 (b s : Nat) : xall (fun _ a => a ∈ lw_tbl) 5 b s Gz_2009 := And.intro (uGz_1993 b (2 * s)) (uGz_2008 (b + s) (2 * s))
theorem uGz_2010 (b s : Nat) : xall (fun _ a => a ∈ lw_tbl) 1 b s Gz_2010 := And.intro uz_126 uz_2174
theorem uGz_2011 (b s : Nat) : xall (fun _ a => a ∈ lw_tbl) 1 b s Gz_2011 := And.intro uz_1150 uz_0
theorem uGz_2012 (b s : Nat) : xall (fun _ a => a ∈ lw_tbl) 2 b s Gz_2012 := And.intro (uGz_2010 b (2 * s)) (uGz_2011 (b + s) (2 * s))
theorem uGz_2013 (b s : Nat) : xall (fun _ a => a ∈ lw_tbl) 1 b s Gz_2013 := And.intro uz_638 uz_0
theorem uGz_2014 (b s : Nat) : xall (fun _ a => a ∈ lw_tbl) 1 b s Gz_2014 := And.intro uz_1662 uz_0
theorem uGz_2015 (b s : Nat) : xall (fun _ a => a ∈ lw_tbl) 2 b s Gz_2015 := And.intro (uGz_2013 b (2 * s)) (uGz_2014 (b + s) (2 * s))
theorem uGz_2016 (b s : Nat) : xall (fun _ a => a ∈ lw_tbl) 3 b s Gz_2016 := And.intro (uGz_2012 b (2 * s)) (uGz_2015 (b + s) (2 * s))
theorem uGz_2017 (b s : Nat) : xall (fun _ a => a ∈ lw_tbl) 1 b s Gz_2017 := And.intro uz_382 uz_0
theorem uGz_2018 (b s : Nat) : xall (fun _ a => a ∈ lw_tbl) 1 b s Gz_2018 := And.intro uz_1406 uz_0
theorem uGz_2019 (b s : Nat) : xall (fun _ a => a ∈ lw_tbl) 2 b s Gz_2019 := And.intro (uGz_2017 b (2 * s)) (uGz_2018 (b + s) (2 * s))
theorem uGz_2020 (b s : Nat) : xall (fun _ a => a ∈ lw_tbl) 1 b s Gz_2020 := And.intro uz_894 uz_0
theorem uGz_2021 (b s : Nat) : xall (fun _ a => a ∈ lw_tbl) 1 b s Gz_2021 := And.intro uz_1918 uz_0
theorem uGz_2022 (b s : Nat) : xall (fun _ a => a ∈ lw_tbl) 2 b s Gz_2022 := And.intro (uGz_2020 b (2 * s)) (uGz_2021 (b + s) (2 * s))
theorem uGz_2023 (b s : Nat) : xall (fun _ a => a ∈ lw_tbl) 3 b s Gz_2023 := And.intro (uGz_2019 b (2 * s)) (uGz_2022 (b + s) (2 * s))
theorem uGz_2024 (b s : Nat) : xall (fun _ a => a ∈ lw_tbl) 4 b s Gz_2024 := And.intro (uGz_2016 b (2 * s)) (uGz_2023 (b + s) (2 * s))
theorem uGz_2025 (b s : Nat) : xall (fun _ a => a ∈ lw_tbl) 1 b s Gz_2025 := And.intro uz_254 uz_0
theorem uGz_2026 (b s : Nat) : xall (fun _ a => a ∈ lw_tbl) 1 b s Gz_2026 := And.intro uz_1278 uz_0
theorem uGz_2027 (b s : Nat) : xall (fun _ a => a ∈ lw_tbl) 2 b s Gz_2027 := And.intro (uGz_2025 b (2 * s)) (uGz_2026 (b + s) (2 * s))
theorem uGz_2028 (b s : Nat) : xall (fun _ a => a ∈ lw_tbl) 1 b s Gz_2028 := And.intro uz_766 uz_0
theorem uGz_2029 (b s : Nat) : xall (fun _ a => a ∈ lw_tbl) 1 b s Gz_2029 := And.intro uz_1790 uz_0
theorem uGz_2030 (b s : Nat) : xall (fun _ a => a ∈ lw_tbl) 2 b s Gz_2030 := And.intro (uGz_2028 b (2 * s)) (uGz_2029 (b + s) (2 * s))
theorem uGz_2031 (b s : Nat) : xall (fun _ a => a ∈ lw_tbl) 3 b s Gz_2031 := And.intro (uGz_2027 b (2 * s)) (uGz_2030 (b + s) (2 * s))
theorem uGz_2032 (b s : Nat) : xall (fun _ a => a ∈ lw_tbl) 1 b s Gz_2032 := And.intro uz_510 uz_0
theorem uGz_2033 (b s : Nat) : xall (fun _ a => a ∈ lw_tbl) 1 b s Gz_2033 := And.intro uz_1534 uz_0
theorem uGz_2034 (b s : Nat) : xall (fun _ a => a ∈ lw_tbl) 2 b s Gz_2034 := And.intro (uGz_2032 b (2 * s)) (uGz_2033 (b + s) (2 * s))
theorem uGz_2035 (b s : Nat) : xall (fun _ a => a ∈ lw_tbl) 1 b s Gz_2035 := And.intro uz_1022 uz_0
theorem uGz_2036 (b s : Nat) : xall (fun _ a => a ∈ lw_tbl) 1 b s Gz_2036 := And.intro uz_2046 uz_0
theorem uGz_2037 (b s : Nat) : xall (fun _ a => a ∈ lw_tbl) 2 b s Gz_2037 := And.intro (uGz_2035 b (2 * s)) (uGz_2036 (b + s) (2 * s))
theorem uGz_2038 (b s : Nat) : xall (fun _ a => a ∈ lw_tbl) 3 b s Gz_2038 := And.intro (uGz_2034 b (2 * s)) (uGz_2037 (b + s) (2 * s))
theorem uGz_2039 (b s : Nat) : xall (fun _ a => a ∈ lw_tbl) 4 b s Gz_2039 := And.intro (uGz_2031 b (2 * s)) (uGz_2038 (b + s) (2 * s))
theorem uGz_2040 (b s : Nat) : xall (fun _ a => a ∈ lw_tbl) 5 b s Gz_2040 := And.intro (uGz_2024 b (2 * s)) (uGz_2039 (b + s) (2 * s))
theorem uGz_2041 (b s : Nat) : xall (fun _ a => a ∈ lw_tbl) 6 b s Gz_2041 := And.intro (uGz_2009 b (2 * s)) (uGz_2040 (b + s) (2 * s))
theorem uGz_2042 (b s : Nat) : xall (fun _ a => a ∈ lw_tbl) 7 b s Gz_2042 := And.intro (uGz_1978 b (2 * s)) (uGz_2041 (b + s) (2 * s))
theorem uGz_2043 (b s : Nat) : xall (fun _ a => a ∈ lw_tbl) 8 b s Gz_2043 := And.intro (uGz_1915 b (2 * s)) (uGz_2042 (b + s) (2 * s))
theorem uGz_2044 (b s : Nat) : xall (fun _ a => a ∈ lw_tbl) 9 b s Gz_2044 := And.intro (uGz_1788 b (2 * s)) (uGz_2043 (b + s) (2 * s))
theorem uGz_2045 (b s : Nat) : xall (fun _ a => a ∈ lw_tbl) 10 b s Gz_2045 := And.intro (uGz_1533 b (2 * s)) (uGz_2044 (b + s) (2 * s))
theorem uGz_2046 (b s : Nat) : xall (fun _ a => a ∈ lw_tbl) 11 b s Gz_2046 := And.intro (uGz_1022 b (2 * s)) (uGz_2045 (b + s) (2 * s))
theorem uGz_2047 (b s : Nat) : xall (fun _ a => a ∈ lw_tbl) 1 b s Gz_2047 := And.intro uz_1 uz_2049
theorem uGz_2048 (b s : Nat) : xall (fun _ a => a ∈ lw_tbl) 1 b s Gz_2048 := And.intro uz_1025 uz_0
theorem uGz_2049 (b s : Nat) : xall (fun _ a => a ∈ lw_tbl) 2 b s Gz_2049 := And.intro (uGz_2047 b (2 * s)) (uGz_2048 (b + s) (2 * s))
theorem uGz_2050 (b s : Nat) : xall (fun _ a => a ∈ lw_tbl) 1 b s Gz_2050 := And.intro uz_513 uz_0
theorem uGz_2051 (b s : Nat) : xall (fun _ a => a ∈ lw_tbl) 1 b s Gz_2051 := And.intro uz_1537 uz_0
theorem uGz_2052 (b s : Nat) : xall (fun _ a => a ∈ lw_tbl) 2 b s Gz_2052 := And.intro (uGz_2050 b (2 * s)) (uGz_2051 (b + s) (2 * s))
theorem uGz_2053 (b s : Nat) : xall (fun _ a => a ∈ lw_tbl) 3 b s Gz_2053 := And.intro (uGz_2049 b (2 * s)) (uGz_2052 (b + s) (2 * s))
theorem uGz_2054 (b s : Nat) : xall (fun _ a => a ∈ lw_tbl) 1 b s Gz_2054 := And.intro uz_257 uz_0
theorem uGz_2055 (b s : Nat) : xall (fun _ a => a ∈ lw_tbl) 1 b s Gz_2055 := And.intro uz_1281 uz_0
theorem uGz_2056 (b s : Nat) : xall (fun _ a => a ∈ lw_tbl) 2 b s Gz_2056 := And.intro (uGz_2054 b (2 * s)) (uGz_2055 (b + s) (2 * s))
theorem uGz_2057 (b s : Nat) : xall (fun _ a => a ∈ lw_tbl) 1 b s Gz_2057 := And.intro uz_769 uz_0
theorem uGz_2058 (b s : Nat) : xall (fun _ a => a ∈ lw_tbl) 1 b s Gz_2058 := And.intro uz_1793 uz_0
theorem uGz_2059 (b s : Nat) : xall (fun _ a => a ∈ lw_tbl) 2 b s Gz_2059 := And.intro (uGz_2057 b (2 * s)) (uGz_2058 (b + s) (2 * s))
theorem uGz_2060 (b s : Nat) : xall (fun _ a => a ∈ lw_tbl) 3 b s Gz_2060 := And.intro (uGz_2056 b (2 * s)) (uGz_2059 (b + s) (2 * s))
theorem uGz_2061 (b s : Nat) : xall (fun _ a => a ∈ lw_tbl) 4 b s Gz_2061 := And.intro (uGz_2053 b (2 * s)) (uGz_2060 (b + s) (2 * s))
theorem uGz_2062 (b s : Nat) : xall (fun _ a => a ∈ lw_tbl) 1 b s Gz_2062 := And.intro uz_129 uz_2177
theorem uGz_2063 (b s : Nat) : xall (fun _ a => a ∈ lw_tbl) 1 b s Gz_2063 := And.intro uz_1153 uz_0
theorem uGz_2064 (b s : Nat) : xall (fun _ a => a ∈ lw_tbl) 2 b s Gz_2064 := And.intro (uGz_2062 b (2 * s)) (uGz_2063 (b + s) (2 * s))
theorem uGz_2065 (b s : Nat) : xall (fun _ a => a ∈ lw_tbl) 1 b s Gz_2065 := And.intro uz_641 uz_0
theorem uGz_2066 (b s : Nat) : xall (fun _ a => a ∈ lw_tbl) 1 b s Gz_2066 := And.intro uz_1665 uz_0
theorem uGz_2067 (b s : Nat) : xall (fun _ a => a ∈ lw_tbl) 2 b s Gz_2067 := And.intro (uGz_2065 b (2 * s)) (uGz_2066 (b + s) (2 * s))
theorem uGz_2068 (b s : Nat) : xall (fun _ a => a ∈ lw_tbl) 3 b s Gz_2068 := And.intro (uGz_2064 b (2 * s)) (uGz_2067 (b + s) (2 * s))
theorem uGz_2069 (b s : Nat) : xall (fun _ a => a ∈ lw_tbl) 1 b s Gz_2069 := And.intro uz_385 uz_0
theorem uGz_2070 (b s : Nat) : xall (fun _ a => a ∈ lw_tbl) 1 b s Gz_2070 := And.intro uz_1409 uz_0
theorem uGz_2071 (b s : Nat) : xall (fun _ a => a ∈ lw_tbl) 2 b s Gz_2071 := And.intro (uGz_2069 b (2 * s)) (uGz_2070 (b + s) (2 * s))
theorem uGz_2072 (b s : Nat) : xall (fun _ a => a ∈ lw_tbl) 1 b s Gz_2072 := And.intro uz_897 uz_0
theorem uGz_2073 (b s : Nat) : xall (fun _ a => a ∈ lw_tbl) 1 b s Gz_2073 := And.intro uz_1921 uz_0
theorem uGz_2074 (b s : Nat) : xall (fun _ a => a ∈ lw_tbl) 2 b s Gz_2074 := And.intro (uGz_2072 b (2 * s)) (uGz_2073 (b + s) (2 * s))
theorem uGz_2075 (b s : Nat) : xall (fun _ a => a ∈ lw_tbl) 3 b s Gz_2075 := And.intro (uGz_2071 b (2 * s)) (uGz_2074 (b + s) (2 * s))
theorem uGz_2076 (b s : Nat) : xall (fun _ a => a ∈ lw_tbl) 4 b s Gz_2076 := And.intro (uGz_2068 b (2 * s)) (uGz_2075 (b + s) (2 * s))
theorem uGz_2077 (b s : Nat) : xall (fun _ a => a ∈ lw_tbl) 5 b s Gz_2077 := And.intro (uGz_2061 b (2 * s)) (uGz_2076 (b + s) (2 * s))
theorem uGz_2078 (b s : Nat) : xall (fun _ a => a ∈ lw_tbl) 1 b s Gz_2078 := And.intro uz_65 uz_2113
theorem uGz_2079 (b s : Nat) : xall (fun _ a => a ∈ lw_tbl) 1 b s Gz_2079 := And.intro uz_1089 uz_0
theorem uGz_2080 (b s : Nat) : xall (fun _ a => a ∈ lw_tbl) 2 b s Gz_2080 := And.intro (uGz_2078 b (2 * s)) (uGz_2079 (b + s) (2 * s))
theorem uGz_2081 (b s : Nat) : xall (fun _ a => a ∈ lw_tbl) 1 b s Gz_2081 := And.intro uz_577 uz_0
theorem uGz_2082 (b s : Nat) : xall (fun _ a => a ∈ lw_tbl) 1 b s Gz_2082 := And.intro uz_1601 uz_0
theorem uGz_2083 (b s : Nat) : xall (fun _ a => a ∈ lw_tbl) 2 b s Gz_2083 := And.intro (uGz_2081 b (2 * s)) (uGz_2082 (b + s) (2 * s))
theorem uGz_2084 (b s : Nat) : xall (fun _ a => a ∈ lw_tbl) 3 b s Gz_2084 := And.intro (uGz_2080 b (2 * s)) (uGz_2083 (b + s) (2 * s))
theorem uGz_2085 (b s : Nat) : xall (fun _ a => a ∈ lw_tbl) 1 b s Gz_2085 := And.intro uz_321 uz_0
theorem uGz_2086 (b s : Nat) : xall (fun _ a => a ∈ lw_tbl) 1 b s Gz_2086 := And.intro uz_1345 uz_0
theorem uGz_2087 (b s : Nat) : xall (fun _ a => a ∈ lw_tbl) 2 b s Gz_2087 := And.intro (uGz_2085 b (2 * s)) (uGz_2086 (b + s) (2 * s))
theorem uGz_2088 (b s : Nat) : xall (fun _ a => a ∈ lw_tbl) 1 b s Gz_2088 := And.intro uz_833 uz_0
theorem uGz_2089 (b s : Nat) : xall (fun _ a => a ∈ lw_tbl) 1 b s Gz_2089 := And.intro uz_1857 uz_0
theorem uGz_2090 (b s : Nat) : xall (fun _ a => a ∈ lw_tbl) 2 b s Gz_2090 := And.intro (uGz_2088 b (2 * s)) (uGz_2089 (b + s) (2 * s))
theorem uGz_2091 (b s : Nat) : xall (fun _ a => a ∈ lw_tbl) 3 b s Gz_2091 := And.intro (uGz_2087 b (2 * s)) (uGz_2090 (b + s) (2 * s))
theorem uGz_2092 (b s : Nat) : xall (fun _ a => a ∈ lw_tbl) 4 b s Gz_2092 := And.intro (uGz_2084 b (2 * s)) (uGz_2091 (b + s) (2 * s))
theorem uGz_2093 (b s : Nat) : xall (fun _ a => a ∈ lw_tbl) 1 b s Gz_2093 := And.intro uz_193 uz_2241
theorem uGz_2094 (b s : Nat) : xall (fun _ a => a ∈ lw_tbl) 1 b s Gz_2094 := And.intro uz_1217 uz_0
theorem uGz_2095 (b s : Nat) : xall (fun _ a => a ∈ lw_tbl) 2 b s Gz_2095 := And.intro (uGz_2093 b (2 * s)) (uGz_2094 (b + s) (2 * s))
theorem uGz_2096 (b s : Nat) : xall (fun _ a => a ∈ lw_tbl) 1 b s Gz_2096 := And.intro uz_705 uz_0
theorem uGz_2097 (b s : Nat) : xall (fun _ a => a ∈ lw_tbl) 1 b s Gz_2097 := And.intro uz_1729 uz_0
theorem uGz_2098 (b s : Nat) : xall (fun _ a => a ∈ lw_tbl) 2 b s Gz_2098 := And.intro (uGz_2096 b (2 * s)) (uGz_2097 (b + s) (2 * s))
theorem uGz_2099 (b s : Nat) : xall (fun _ a => a ∈ lw_tbl) 3 b s Gz_2099 := And.intro (uGz_2095 b (2 * s)) (uGz_2098 (b + s) (2 * s))
theorem uGz_2100 (b s : Nat) : xall (fun _ a => a ∈ lw_tbl) 1 b s Gz_2100 := And.intro uz_449 uz_0
theorem uGz_2101 (b s : Nat) : xall (fun _ a => a ∈ lw_tbl) 1 b s Gz_2101 := And.intro uz_1473 uz_0
theorem uGz_2102 (b s : Nat) : xall (fun _ a => a ∈ lw_tbl) 2 b s Gz_2102 := And.intro (uGz_2100 b (2 * s)) (uGz_2101 (b + s) (2 * s))
theorem uGz_2103 (b s : Nat) : xall (fun _ a => a ∈ lw_tbl) 1 b s Gz_2103 := And.intro uz_961 uz_0
theorem uGz_2104 (b s : Nat) : xall (fun _ a => a ∈ lw_tbl) 1 b s Gz_2104 := And.intro uz_1985 uz_0
theorem uGz_2105 (b s : Nat) : xall (fun _ a => a ∈ lw_tbl) 2 b s Gz_2105 := And.intro (uGz_2103 b (2 * s)) (uGz_2104 (b + s) (2 * s))
theorem uGz_2106 (b s : Nat) : xall (fun _ a => a ∈ lw_tbl) 3 b s Gz_2106 := And.intro (uGz_2102 b (2 * s)) (uGz_2105 (b + s) (2 * s))
theorem uGz_2107 (b s : Nat) : xall (fun _ a => a ∈ lw_tbl) 4 b s Gz_2107 := And.intro (uGz_2099 b (2 * s)) (uGz_2106 (b + s) (2 * s))
theorem uGz_2108 (b s : Nat) : xall (fun _ a => a ∈ lw_tbl) 5 b s Gz_2108 := And.intro (uGz_2092 b (2 * s)) (uGz_2107 (b + s) (2 * s))
theorem uGz_2109 (b s : Nat) : xall (fun _ a => a ∈ lw_tbl) 6 b s Gz_2109 := And.intro (uGz_2077 b (2 * s)) (uGz_2108 (b + s) (2 * s))
theorem uGz_2110 (b s : Nat) : xall (fun _ a => a ∈ lw_tbl) 1 b s Gz_2110 := And.intro uz_33 uz_2081
theorem uGz_2111 (b s : Nat) : xall (fun _ a => a ∈ lw_tbl) 1 b s Gz_2111 := And.intro uz_1057 uz_0
theorem uGz_2112 (b s : Nat) : xall (fun _ a => a ∈ lw_tbl) 2 b s Gz_2112 := And.intro (uGz_2110 b (2 * s)) (uGz_2111 (b + s) (2 * s))
theorem uGz_2113 (b s : Nat) : xall (fun _ a => a ∈ lw_tbl) 1 b s Gz_2113 := And.intro uz_545 uz_0
theorem uGz_2114 (b s : Nat) : xall (fun _ a => a ∈ lw_tbl) 1 b s Gz_2114 := And.intro uz_1569 uz_0
theorem uGz_2115 (b s : Nat) : xall (fun _ a => a ∈ lw_tbl) 2 b s Gz_2115 := And.intro (uGz_2113 b (2 * s)) (uGz_2114 (b + s) (2 * s))
theorem uGz_2116 (b s : Nat) : xall (fun _ a => a ∈ lw_tbl) 3 b s Gz_2116 := And.intro (uGz_2112 b (2 * s)) (uGz_2115 (b + s) (2 * s))
theorem uGz_2117 (b s : Nat) : xall (fun _ a => a ∈ lw_tbl) 1 b s Gz_2117 := And.intro uz_289 uz_0
theorem uGz_2118 (b s : Nat) : xall (fun _ a => a ∈ lw_tbl) 1 b s Gz_2118 := And.intro uz_1313 uz_0
theorem uGz_2119 (b s : Nat) : xall (fun _ a => a ∈ lw_tbl) 2 b s Gz_2119 := And.intro (uGz_2117 b (2 * s)) (uGz_2118 (b + s) (2 * s))
theorem uGz_2120 (b s : Nat) : xall (fun _ a => a ∈ lw_tbl) 1 b s Gz_2120 := And.intro uz_801 uz_0
theorem uGz_2121 (b s : Nat) : xall (fun _ a => a ∈ lw_tbl) 1 b s Gz_2121 := And.intro uz_1825 uz_0
theorem uGz_2122 (b s : Nat) : xall (fun _ a => a ∈ lw_tbl) 2 b s Gz_2122 := And.intro (uGz_2120 b (2 * s)) (uGz_2121 (b + s) (2 * s))
theorem uGz_2123 (b s : Nat) : xall (fun _ a => a ∈ lw_tbl) 3 b s Gz_2123 := And.intro (uGz_2119 b (2 * s)) (uGz_2122 (b + s) (2 * s))
theorem uGz_2124 (b s : Nat) : xall (fun _ a => a ∈ lw_tbl) 4 b s Gz_2124 := And.intro (uGz_2116 b (2 * s)) (uGz_2123 (b + s) (2 * s))
theorem uGz_2125 (b s : Nat) : xall (fun _ a => a ∈ lw_tbl) 1 b s Gz_2125 := And.intro uz_161 uz_2209
theorem uGz_2126 (b s : Nat) : xall (fun _ a => a ∈ lw_tbl) 1 b s Gz_2126 := And.intro uz_1185 uz_0
theorem uGz_2127 (b s : Nat) : xall (fun _ a => a ∈ lw_tbl) 2 b s Gz_2127 := And.intro (uGz_2125 b (2 * s)) (uGz_2126 (b + s) (2 * s))
theorem uGz_2128 (b s : Nat) : xall (fun _ a => a ∈ lw_tbl) 1 b s Gz_2128 := And.intro uz_673 uz_0
theorem uGz_2129 (b s : Nat) : xall (fun _ a => a ∈ lw_tbl) 1 b s Gz_2129 := And.intro uz_1697 uz_0
theorem uGz_2130 (b s : Nat) : xall (fun _ a => a ∈ lw_tbl) 2 b s Gz_2130 := And.intro (uGz_2128 b (2 * s)) (uGz_2129 (b + s) (2 * s))
theorem uGz_2131 (b s : Nat) : xall (fun _ a => a ∈ lw_tbl) 3 b s Gz_2131 := And.intro (uGz_2127 b (2 * s)) (uGz_2130 (b + s) (2 * s))
theorem uGz_2132 (b s : Nat) : xall (fun _ a => a ∈ lw_tbl) 1 b s Gz_2132 := And.intro uz_417 uz_0
theorem uGz_2133 (b s : Nat) : xall (fun _ a => a ∈ lw_tbl) 1 b s Gz_2133 := And.intro uz_1441 uz_0
theorem uGz_2134 (b s : Nat) : xall (fun _ a => a ∈ lw_tbl) 2 b s Gz_2134 := And.intro (uGz_2132 b (2 * s)) (uGz_2133 (b + s) (2 * s))
theorem uGz_2135 (b s : Nat) : xall (fun _ a => a ∈ lw_tbl) 1 b s Gz_2135 := And.intro uz_929 uz_0
theorem uGz_2136 (b s : Nat) : xall (fun _ a => a ∈ lw_tbl) 1 b s Gz_2136 := And.intro uz_1953 uz_0
theorem uGz_2137 (b s : Nat) : xall (fun _ a => a ∈ lw_tbl) 2 b s Gz_2137 := And.intro (uGz_2135 b (2 * s)) (uGz_2136 (b + s) (2 * s))
theorem uGz_2138 (b s : Nat) : xall (fun _ a => a ∈ lw_tbl) 3 b s Gz_2138 := And.intro (uGz_2134 b (2 * s)) (uGz_2137 (b + s) (2 * s))
theorem uGz_2139 (b s : Nat) : xall (fun _ a => a ∈ lw_tbl) 4 b s Gz_2139 := And.intro (uGz_2131 b (2 * s)) (uGz_2138 (b + s) (2 * s))
theorem uGz_2140 (b s : Nat) : xall (fun _ a => a ∈ lw_tbl) 5 b s Gz_2140 := And.intro (uGz_2124 b (2 * s)) (uGz_2139 (b + s) (2 * s))
theorem uGz_2141 (b s : Nat) : xall (fun _ a => a ∈ lw_tbl) 1 b s Gz_2141 := And.intro uz_97 uz_2145
theorem uGz_2142 (b s : Nat) : xall (fun _ a => a ∈ lw_tbl) 1 b s Gz_2142 := And.intro uz_1121 uz_0
theorem uGz_2143 (b s : Nat) : xall (fun _ a => a ∈ lw_tbl) 2 b s Gz_2143 := And.intro (uGz_2141 b (2 * s)) (uGz_2142 (b + s) (2 * s))
theorem uGz_2144 (b s : Nat) : xall (fun _ a => a ∈ lw_tbl) 1 b s Gz_2144 := And.intro uz_609 uz_0
theorem uGz_2145 (b s : Nat) : xall (fun _ a => a ∈ lw_tbl) 1 b s Gz_2145 := And.intro uz_1633 uz_0
theorem uGz_2146 (b s : Nat) : xall (fun _ a => a ∈ lw_tbl) 2 b s Gz_2146 := And.intro (uGz_2144 b (2 * s)) (uGz_2145 (b + s) (2 * s))
theorem uGz_2147 (b s : Nat) : xall (fun _ a => a ∈ lw_tbl) 3 b s Gz_2147 := And.intro (uGz_2143 b (2 * s)) (uGz_2146 (b + s) (2 * s))
theorem uGz_2148 (b s : Nat) : xall (fun _ a => a ∈ lw_tbl) 1 b s Gz_2148 := And.intro uz_353 uz_0
theorem uGz_2149 (b s : Nat) : xall (fun _ a => a ∈ lw_tbl) 1 b s Gz_2149 := And.intro uz_1377 uz_0
theorem uGz_2150 (b s : Nat) : xall (fun _ a => a ∈ lw_tbl) 2 b s Gz_2150 := And.intro (uGz_2148 b (2 * s)) (uGz_2149 (b + s) (2 * s))
theorem uGz_2151 (b s : Nat) : xall (fun _ a => a ∈ lw_tbl) 1 b s Gz_2151 := And.intro uz_865 uz_0
theorem uGz_2152 (b s : Nat) : xall (fun _ a => a ∈ lw_tbl) 1 b s Gz_2152 := And.intro uz_1889 uz_0
theorem uGz_2153 (b s : Nat) : xall (fun _ a => a ∈ lw_tbl) 2 b s Gz_2153 := And.intro (uGz_2151 b (2 * s)) (uGz_2152 (b + s) (2 * s))
theorem uGz_2154 (b s : Nat) : xall (fun _ a => a ∈ lw_tbl) 3 b s Gz_2154 := And.intro (uGz_2150 b (2 * s)) (uGz_2153 (b + s) (2 * s))
theorem uGz_2155 (b s : Nat) : xall (fun _ a => a ∈ lw_tbl) 4 b s Gz_2155 := And.intro (uGz_2147 b (2 * s)) (uGz_2154 (b + s) (2 * s))
theorem uGz_2156 (b s : Nat) : xall (fun _ a => a ∈ lw_tbl) 1 b s Gz_2156 := And.intro uz_225 uz_0
theorem uGz_2157 (b s : Nat) : xall (fun _ a => a ∈ lw_tbl) 1 b s Gz_2157 := And.intro uz_1249 uz_0
theorem uGz_2158 (b s : Nat) : xall (fun _ a => a ∈ lw_tbl) 2 b s Gz_2158 := And.intro (uGz_2156 b (2 * s)) (uGz_2157 (b + s) (2 * s))
theorem uGz_2159 (b s : Nat) : xall (fun _ a => a ∈ lw_tbl) 1 b s Gz_2159 := And.intro uz_737 uz_0
theorem uGz_2160 (b s : Nat) : xall (fun _ a => a ∈ lw_tbl) 1 b s Gz_2160 := And.intro uz_1761 uz_0
theorem uGz_2161 (b s : Nat) : xall (fun _ a => a ∈ lw_tbl) 2 b s Gz_2161 := And.intro (uGz_2159 b (2 * s)) (uGz_2160 (b + s) (2 * s))
theorem uGz_2162 (b s : Nat) : xall (fun _ a => a ∈ lw_tbl) 3 b s Gz_2162 := And.intro (uGz_2158 b (2 * s)) (uGz_2161 (b + s) (2 * s))
theorem uGz_2163 (b s : Nat) : xall (fun _ a => a ∈ lw_tbl) 1 b s Gz_2163 := And.intro uz_481 uz_0
theorem uGz_2164 (b s : Nat) : xall (fun _ a => a ∈ lw_tbl) 1 b s Gz_2164 := And.intro uz_1505 uz_0
theorem uGz_2165 (b s : Nat) : xall (fun _ a => a ∈ lw_tbl) 2 b s Gz_2165 := And.intro (uGz_2163 b (2 * s)) (uGz_2164 (b + s) (2 * s))
theorem uGz_2166 (b s : Nat) : xall (fun _ a => a ∈ lw_tbl) 1 b s Gz_2166 := And.intro uz_993 uz_0
theorem uGz_2167 (b s : Nat) : xall (fun _ a => a ∈ lw_tbl) 1 b s Gz_2167 := And.intro uz_2017 uz_0
theorem uGz_2168 (b s : Nat) : xall (fun _ a => a ∈ lw_tbl) 2 b s Gz_2168 := And.intro (uGz_2166 b (2 * s)) (uGz_2167 (b + s) (2 * s))
theorem uGz_2169 (b s : Nat) : xall (fun _ a => a ∈ lw_tbl) 3 b s Gz_2169 := And.intro (uGz_2165 b (2 * s)) (uGz_2168 (b + s) (2 * s))
theorem uGz_2170 (b s : Nat) : xall (fun _ a => a ∈ lw_tbl) 4 b s Gz_2170 := And.intro (uGz_2162 b (2 * s)) (uGz_2169 (b + s) (2 * s))
theorem uGz_2171 (b s : Nat) : xall (fun _ a => a ∈ lw_tbl) 5 b s Gz_2171 := And.intro (uGz_2155 b (2 * s)) (uGz_2170 (b + s) (2 * s))
theorem uGz_2172 (b s : Nat) : xall (fun _ a => a ∈ lw_tbl) 6 b s Gz_2172 := And.intro (uGz_2140 b (2 * s)) (uGz_2171 (b + s) (2 * s))
theorem uGz_2173 (b s : Nat) : xall (fun _ a => a ∈ lw_tbl) 7 b s Gz_2173 := And.intro (uGz_2109 b (2 * s)) (uGz_2172 (b + s) (2 * s))
theorem uGz_2174 (b s : Nat) : xall (fun _ a => a ∈ lw_tbl) 1 b s Gz_2174 := And.intro uz_17 uz_2065
theorem uGz_2175 (b s : Nat) : xall (fun _ a => a ∈ lw_tbl) 1 b s Gz_2175 := And.intro uz_1041 uz_0
theorem uGz_2176 (b s : Nat) : xall (fun _ a => a ∈ lw_tbl) 2 b s Gz_2176 := And.intro (uGz_2174 b (2 * s)) (uGz_2175 (b + s) (2 * s))
theorem uGz_2177 (b s : Nat) : xall (fun _ a => a ∈ lw_tbl) 1 b s Gz_2177 := And.intro uz_529 uz_0
theorem uGz_2178 (b s : Nat) : xall (fun _ a => a ∈ lw_tbl) 1 b s Gz_2178 := And.intro uz_1553 uz_0
theorem uGz_2179 (b s : Nat) : xall (fun _ a => a ∈ lw_tbl) 2 b s Gz_2179 := And.intro (uGz_2177 b (2 * s)) (uGz_2178 (b + s) (2 * s))
theorem uGz_2180 (b s : Nat) : xall (fun _ a => a ∈ lw_tbl) 3 b s Gz_2180 := And.intro (uGz_2176 b (2 * s)) (uGz_2179 (b + s) (2 * s))
theorem uGz_2181 (b s : Nat) : xall (fun _ a => a ∈ lw_tbl) 1 b s Gz_2181 := And.intro uz_273 uz_0
theorem uGz_2182 (b s : Nat) : xall (fun _ a => a ∈ lw_tbl) 1 b s Gz_2182 := And.intro uz_1297 uz_0
theorem uGz_2183 (b s : Nat) : xall (fun _ a => a ∈ lw_tbl) 2 b s Gz_2183 := And.intro (uGz_2181 b (2 * s)) (uGz_2182 (b + s) (2 * s))
theorem uGz_2184 (b s : Nat) : xall (fun _ a => a ∈ lw_tbl) 1 b s Gz_2184 := And.intro uz_785 uz_0
theorem uGz_2185 (b s : Nat) : xall (fun _ a => a ∈ lw_tbl) 1 b s Gz_2185 := And.intro uz_1809 uz_0
theorem uGz_2186 (b s : Nat) : xall (fun _ a => a ∈ lw_tbl) 2 b s Gz_2186 := And.intro (uGz_2184 b (2 * s)) (uGz_2185 (b + s) (2 * s))
theorem uGz_2187 (b s : Nat) : xall (fun _ a => a ∈ lw_tbl) 3 b s Gz_2187 := And.intro (uGz_2183 b (2 * s)) (uGz_2186 (b + s) (2 * s))
theorem uGz_2188 (b s : Nat) : xall (fun _ a => a ∈ lw_tbl) 4 b s Gz_2188 := And.intro (uGz_2180 b (2 * s)) (uGz_2187 (b + s) (2 * s))
theorem uGz_2189 (b s : Nat) : xall (fun _ a => a ∈ lw_tbl) 1 b s Gz_2189 := And.intro uz_145 uz_2193
theorem uGz_2190 (b s : Nat) : xall (fun _ a => a ∈ lw_tbl) 1 b s Gz_2190 := And.intro uz_1169 uz_0
theorem uGz_2191 (b s : Nat) : xall (fun _ a => a ∈ lw_tbl) 2 b s Gz_2191 := And.intro (uGz_2189 b (2 * s)) (uGz_2190 (b + s) (2 * s))
theorem uGz_2192 (b s : Nat) : xall (fun _ a => a ∈ lw_tbl) 1 b s Gz_2192 := And.intro uz_657 uz_0
theorem uGz_2193 (b s : Nat) : xall (fun _ a => a ∈ lw_tbl) 1 b s Gz_2193 := And.intro uz_1681 uz_0
theorem uGz_2194 (b s : Nat) : xall (fun _ a => a ∈ lw_tbl) 2 b s Gz_2194 := And.intro (uGz_2192 b (2 * s)) (uGz_2193 (b + s) (2 * s))
theorem uGz_2195 (b s : Nat) : xall (fun _ a => a ∈ lw_tbl) 3 b s Gz_2195 := And.intro (uGz_2191 b (2 * s)) (uGz_2194 (b + s) (2 * s))
theorem uGz_2196 (b s : Nat) : xall (fun _ a => a ∈ lw_tbl) 1 b s Gz_2196 := And.intro uz_401 uz_0
theorem uGz_2197 (b s : Nat) : xall (fun _ a => a ∈ lw_tbl) 1 b s Gz_2197 := And.intro uz_1425 uz_0
theorem uGz_2198 (b s : Nat) : xall (fun _ a => a ∈ lw_tbl) 2 b s Gz_2198 := And.intro (uGz_2196 b (2 * s)) (uGz_2197 (b + s) (2 * s))
theorem uGz_2199 (b s : Nat) : xall (fun _ a => a ∈ lw_tbl) 1 b s Gz_2199 := And.intro uz_913 uz_0
theorem uGz_2200 (b s : Nat) : xall (fun _ a => a ∈ lw_tbl) 1 b s Gz_2200 := And.intro uz_1937 uz_0
theorem uGz_2201 (b s : Nat) : xall (fun _ a => a ∈ lw_tbl) 2 b s Gz_2201 := And.intro (uGz_2199 b (2 * s)) (uGz_2200 (b + s) (2 * s))
theorem uGz_2202 (b s : Nat) : xall (fun _ a => a ∈ lw_tbl) 3 b s Gz_2202 := And.intro (uGz_2198 b (2 * s)) (uGz_2201 (b + s) (2 * s))
theorem uGz_2203 (b s : Nat) : xall (fun _ a => a ∈ lw_tbl) 4 b s Gz_2203 := And.intro (uGz_2195 b (2 * s)) (uGz_2202 (b + s) (2 * s))
theorem uGz_2204 (b s : Nat) : xall (fun _ a => a ∈ lw_tbl) 5 b s Gz_2204 := And.intro (uGz_2188 b (2 * s)) (uGz_2203 (b + s) (2 * s))
theorem uGz_2205 (b s : Nat) : xall (fun _ a => a ∈ lw_tbl) 1 b s Gz_2205 := And.intro uz_81 uz_2129
theorem uGz_2206 (b s : Nat) : xall (fun _ a => a ∈ lw_tbl) 1 b s Gz_2206 := And.intro uz_1105 uz_0
theorem uGz_2207 (b s : Nat) : xall (fun _ a => a ∈ lw_tbl) 2 b s Gz_2207 := And.intro (uGz_2205 b (2 * s)) (uGz_2206 (b + s) (2 * s))
theorem uGz_2208 (b s : Nat) : xall (fun _ a => a ∈ lw_tbl) 1 b s Gz_2208 := And.intro uz_593 uz_0
theorem uGz_2209 (b s : Nat) : xall (fun _ a => a ∈ lw_tbl) 1 b s Gz_2209 := And.intro uz_1617 uz_0
theorem uGz_2210 (b s : Nat) : xall (fun _ a => a ∈ lw_tbl) 2 b s Gz_2210 := And.intro (uGz_2208 b (2 * s)) (uGz_2209 (b + s) (2 * s))
theorem uGz_2211 (b s : Nat) : xall (fun _ a => a ∈ lw_tbl) 3 b s Gz_2211 := And.intro (uGz_2207 b (2 * s)) (uGz_2210 (b + s) (2 * s))
theorem uGz_2212 (b s : Nat) : xall (fun _ a => a ∈ lw_tbl) 1 b s Gz_2212 := And.intro uz_337 uz_0
theorem uGz_2213 (b s : Nat) : xall (fun _ a => a ∈ lw_tbl) 1 b s Gz_2213 := And.intro uz_1361 uz_0
theorem uGz_2214 (b s : Nat) : xall (fun _ a => a ∈ lw_tbl) 2 b s Gz_2214 := And.intro (uGz_2212 b (2 * s)) (uGz_2213 (b + s) (2 * s))
theorem uGz_2215 (b s : Nat) : xall (fun _ a => a ∈ lw_tbl) 1 b s Gz_2215 := And.intro uz_849 uz_0
theorem uGz_2216 (b s : Nat) : xall (fun _ a => a ∈ lw_tbl) 1 b s Gz_2216 := And.intro uz_1873 uz_0
theorem uGz_2217 (b s : Nat) : xall (fun _ a => a ∈ lw_tbl) 2 b s Gz_2217 := And.intro (uGz_2215 b (2 * s)) (uGz_2216 (b + s) (2 * s))
theorem uGz_2218 (b s : Nat) : xall (fun _ a => a ∈ lw_tbl) 3 b s Gz_2218 := And.intro (uGz_2214 b (2 * s)) (uGz_2217 (b + s) (2 * s))
theorem uGz_2219 (b s : Nat) : xall (fun _ a => a ∈ lw_tbl) 4 b s Gz_2219 := And.intro (uGz_2211 b (2 * s)) (uGz_2218 (b + s) (2 * s))
theorem uGz_2220 (b s : Nat) : xall (fun _ a => a ∈ lw_tbl) 1 b s Gz_2220 := And.intro uz_209 uz_2257
theorem uGz_2221 (b s : Nat) : xall (fun _ a => a ∈ lw_tbl) 1 b s Gz_2221 := And.intro uz_1233 uz_0
theorem uGz_2222 (b s : Nat) : xall (fun _ a => a ∈ lw_tbl) 2 b s Gz_2222 := And.intro (uGz_2220 b (2 * s)) (uGz_2221 (b + s) (2 * s))
theorem uGz_2223 (b s : Nat) : xall (fun _ a => a ∈ lw_tbl) 1 b s Gz_2223 := And.intro uz_721 uz_0
theorem uGz_2224 (b s : Nat) : xall (fun _ a => a ∈ lw_tbl) 1 b s Gz_2224 := And.intro uz_1745 uz_0
theorem uGz_2225 (b s : Nat) : xall (fun _ a => a ∈ lw_tbl) 2 b s Gz_2225 := And.intro (uGz_2223 b (2 * s)) (uGz_2224 (b + s) (2 * s))
theorem uGz_2226 (b s : Nat) : xall (fun _ a => a ∈ lw_tbl) 3 b s Gz_2226 := And.intro (uGz_2222 b (2 * s)) (uGz_2225 (b + s) (2 * s))
theorem uGz_2227 (b s : Nat) : xall (fun _ a => a ∈ lw_tbl) 1 b s Gz_2227 := And.intro uz_465 uz_0
theorem uGz_2228 (b s : Nat) : xall (fun _ a => a ∈ lw_tbl) 1 b s Gz_2228 := And.intro uz_1489 uz_0
theorem uGz_2229 (b s : Nat) : xall (fun _ a => a ∈ lw_tbl) 2 b s Gz_2229 := And.intro (uGz_2227 b (2 * s)) (uGz_2228 (b + s) (2 * s))
theorem uGz_2230 (b s : Nat) : xall (fun _ a => a ∈ lw_tbl) 1 b s Gz_2230 := And.intro uz_977 uz_0
theorem uGz_2231 (b s : Nat) : xall (fun _ a => a ∈ lw_tbl) 1 b s Gz_2231 := And.intro uz_2001 uz_0
theorem uGz_2232 (b s : Nat) : xall (fun _ a => a ∈ lw_tbl) 2 b s Gz_2232 := And.intro (uGz_2230 b (2 * s)) (uGz_2231 (b + s) (2 * s))
theorem uGz_2233 (b s : Nat) : xall (fun _ a => a ∈ lw_tbl) 3 b s Gz_2233 := And.intro (uGz_2229 b (2 * s)) (uGz_2232 (b + s) (2 * s))
theorem uGz_2234 (b s : Nat) : xall (fun _ a => a ∈ lw_tbl) 4 b s Gz_2234 := And.intro (uGz_2226 b (2 * s)) (uGz_2233 (b + s) (2 * s))
theorem uGz_2235 (b s : Nat) : xall (fun _ a => a ∈ lw_tbl) 5 b s Gz_2235 := And.intro (uGz_2219 b (2 * s)) (uGz_2234 (b + s) (2 * s))
theorem uGz_2236 (b s : Nat) : xall (fun _ a => a ∈ lw_tbl) 6 b s Gz_2236 := And.intro (uGz_2204 b (2 * s)) (uGz_2235 (b + s) (2 * s))
theorem uGz_2237 (b s : Nat) : xall (fun _ a => a ∈ lw_tbl) 1 b s Gz_2237 := And.intro uz_49 uz_2097
theorem uGz_2238 (b s : Nat) : xall (fun _ a => a ∈ lw_tbl) 1 b s Gz_2238 := And.intro uz_1073 uz_0
theorem uGz_2239 (b s : Nat) : xall (fun _ a => a ∈ lw_tbl) 2 b s Gz_2239 := And.intro (uGz_2237 b (2 * s)) (uGz_2238 (b + s) (2 * s))
theorem uGz_2240 (b s : Nat) : xall (fun _ a => a ∈ lw_tbl) 1 b s Gz_2240 := And.intro uz_561 uz_0
theorem uGz_2241 (b s : Nat) : xall (fun _ a => a ∈ lw_tbl) 1 b s Gz_2241 := And.intro uz_1585 uz_0
theorem uGz_2242 (b s : Nat) : xall (fun _ a => a ∈ lw_tbl) 2 b s Gz_2242 := And.intro (uGz_2240 b (2 * s)) (uGz_2241 (b + s) (2 * s))
theorem uGz_2243 (b s : Nat) : xall (fun _ a => a ∈ lw_tbl) 3 b s Gz_2243 := And.intro (uGz_2239 b (2 * s)) (uGz_2242 (b + s) (2 * s))
theorem uGz_2244 (b s : Nat) : xall (fun _ a => a ∈ lw_tbl) 1 b s Gz_2244 := And.intro uz_305 uz_0
theorem uGz_2245 (b s : Nat) : xall (fun _ a => a ∈ lw_tbl) 1 b s Gz_2245 := And.intro uz_1329 uz_0
theorem uGz_2246 (b s : Nat) : xall (fun _ a => a ∈ lw_tbl) 2 b s Gz_2246 := And.intro (uGz_2244 b (2 * s)) (uGz_2245 (b + s) (2 * s))
theorem uGz_2247 (b s : Nat) : xall (fun _ a => a ∈ lw_tbl) 1 b s Gz_2247 := And.intro uz_817 uz_0
theorem uGz_2248 (b s : Nat) : xall (fun _ a => a ∈ lw_tbl) 1 b s Gz_2248 := And.intro uz_1841 uz_0
theorem uGz_2249 (b s : Nat) : xall (fun _ a => a ∈ lw_tbl) 2 b s Gz_2249 := And.intro (uGz_2247 b (2 * s)) (uGz_2248 (b + s) (2 * s))
theorem uGz_2250 (b s : Nat) : xall (fun _ a => a ∈ lw_tbl) 3 b s Gz_2250 := And.intro (uGz_2246 b (2 * s)) (uGz_2249 (b + s) (2 * s))
theorem uGz_2251 (b s : Nat) : xall (fun _ a => a ∈ lw_tbl) 4 b s Gz_2251 := And.intro (uGz_2243 b (2 * s)) (uGz_2250 (b + s) (2 * s))
theorem uGz_2252 (b s : Nat) : xall (fun _ a => a ∈ lw_tbl) 1 b s Gz_2252 := And.intro uz_177 uz_2225
theorem uGz_2253 (b s : Nat) : xall (fun _ a => a ∈ lw_tbl) 1 b s Gz_2253 := And.intro uz_1201 uz_0
theorem uGz_2254 (b s : Nat) : xall (fun _ a => a ∈ lw_tbl) 2 b s Gz_2254 := And.intro (uGz_2252 b (2 * s)) (uGz_2253 (b + s) (2 * s))
theorem uGz_2255 (b s : Nat) : xall (fun _ a => a ∈ lw_tbl) 1 b s Gz_2255 := And.intro uz_689 uz_0
theorem uGz_2256 (b s : Nat) : xall (fun _ a => a ∈ lw_tbl) 1 b s Gz_2256 := And.intro uz_1713 uz_0
theorem uGz_2257 (b s : Nat) : xall (fun _ a => a ∈ lw_tbl) 2 b s Gz_2257 := And.intro (uGz_2255 b (2 * s)) (uGz_2256 (b + s) (2 * s))
theorem uGz_2258 (b s : Nat) : xall (fun _ a => a ∈ lw_tbl) 3 b s Gz_2258 := And.intro (uGz_2254 b (2 * s)) (uGz_2257 (b + s) (2 * s))
theorem uGz_2259 (b s : Nat) : xall (fun _ a => a ∈ lw_tbl) 1 b s Gz_2259 := And.intro uz_433 uz_0
theorem uGz_2260 (b s : Nat) : xall (fun _ a => a ∈ lw_tbl) 1 b s Gz_2260 := And.intro uz_1457 uz_0
theorem uGz_2261 (b s : Nat) : xall (fun _ a => a ∈ lw_tbl) 2 b s Gz_2261 := And.intro (uGz_2259 b (2 * s)) (uGz_2260 (b + s) (2 * s))
theorem uGz_2262 (b s : Nat) : xall (fun _ a => a ∈ lw_tbl) 1 b s Gz_2262 := And.intro uz_945 uz_0
theorem uGz_2263 (b s : Nat) : xall (fun _ a => a ∈ lw_tbl) 1 b s Gz_2263 := And.intro uz_1969 uz_0
theorem uGz_2264 (b s : Nat) : xall (fun _ a => a ∈ lw_tbl) 2 b s Gz_2264 := And.intro (uGz_2262 b (2 * s)) (uGz_2263 (b + s) (2 * s))
theorem uGz_2265 (b s : Nat) : xall (fun _ a => a ∈ lw_tbl) 3 b s Gz_2265 := And.intro (uGz_2261 b (2 * s)) (uGz_2264 (b + s) (2 * s))
theorem uGz_2266 (b s : Nat) : xall (fun _ a => a ∈ lw_tbl) 4 b s Gz_2266 := And.intro (uGz_2258 b (2 * s)) (uGz_2265 (b + s) (2 * s))
theorem uGz_2267 (b s : Nat) : xall (fun _ a => a ∈ lw_tbl) 5 b s Gz_2267 := And.intro (uGz_2251 b (2 * s)) (uGz_2266 (b + s) (2 * s))
theorem uGz_2268 (b s : Nat) : xall (fun _ a => a ∈ lw_tbl) 1 b s Gz_2268 := And.intro uz_113 uz_2161
theorem uGz_2269 (b s : Nat) : xall (fun _ a => a ∈ lw_tbl) 1 b s Gz_2269 := And.intro uz_1137 uz_0
theorem uGz_2270 (b s : Nat) : xall (fun _ a => a ∈ lw_tbl) 2 b s Gz_2270 := And.intro (uGz_2268 b (2 * s)) (uGz_2269 (b + s) (2 * s))
theorem uGz_2271 (b s : Nat) : xall (fun _ a => a ∈ lw_tbl) 1 b s Gz_2271 := And.intro uz_625 uz_0
theorem uGz_2272 (b s : Nat) : xall (fun _ a => a ∈ lw_tbl) 1 b s Gz_2272 := And.intro uz_1649 uz_0
theorem uGz_2273 (b s : Nat) : xall (fun _ a => a ∈ lw_tbl) 2 b s Gz_2273 := And.intro (uGz_2271 b (2 * s)) (uGz_2272 (b + s) (2 * s))
theorem uGz_2274 (b s : Nat) : xall (fun _ a => a ∈ lw_tbl) 3 b s Gz_2274 := And.intro (uGz_2270 b (2 * s)) (uGz_2273 (b + s) (2 * s))
theorem uGz_2275 (b s : Nat) : xall (fun _ a => a ∈ lw_tbl) 1 b s Gz_2275 := And.intro uz_369 uz_0
theorem uGz_2276 (b s : Nat) : xall (fun _ a => a ∈ lw_tbl) 1 b s Gz_2276 := And.intro uz_1393 uz_0
theorem uGz_2277 (b s : Nat) : xall (fun _ a => a ∈ lw_tbl) 2 b s Gz_2277 := And.intro (uGz_2275 b (2 * s)) (uGz_2276 (b + s) (2 * s))
theorem uGz_2278 (b s : Nat) : xall (fun _ a => a ∈ lw_tbl) 1 b s Gz_2278 := And.intro uz_881 uz_0
theorem uGz_2279 (b s : Nat) : xall (fun _ a => a ∈ lw_tbl) 1 b s Gz_2279 := And.intro uz_1905 uz_0
theorem uGz_2280 (b s : Nat) : xall (fun _ a => a ∈ lw_tbl) 2 b s Gz_2280 := And.intro (uGz_2278 b (2 * s)) (uGz_2279 (b + s) (2 * s))
theorem uGz_2281 (b s : Nat) : xall (fun _ a => a ∈ lw_tbl) 3 b s Gz_2281 := And.intro (uGz_2277 b (2 * s)) (uGz_2280 (b + s) (2 * s))
theorem uGz_2282 (b s : Nat) : xall (fun _ a => a ∈ lw_tbl) 4 b s Gz_2282 := And.intro (uGz_2274 b (2 * s)) (uGz_2281 (b + s) (2 * s))
theorem uGz_2283 (b s : Nat) : xall (fun _ a => a ∈ lw_tbl) 1 b s Gz_2283 := And.intro uz_241 uz_0
theorem uGz_2284 (b s : Nat) : xall (fun _ a => a ∈ lw_tbl) 1 b s Gz_2284 := And.intro uz_1265 uz_0
theorem uGz_2285 (b s : Nat) : xall (fun _ a => a ∈ lw_tbl) 2 b s Gz_2285 := And.intro (uGz_2283 b (2 * s)) (uGz_2284 (b + s) (2 * s))
theorem uGz_2286 (b s : Nat) : xall (fun _ a => a ∈ lw_tbl) 1 b s Gz_2286 := And.intro uz_753 uz_0
theorem uGz_2287 (b s : Nat) : xall (fun _ a => a ∈ lw_tbl) 1 b s Gz_2287 := And.intro uz_1777 uz_0
theorem uGz_2288 (b s : Nat) : xall (fun _ a => a ∈ lw_tbl) 2 b s Gz_2288 := And.intro (uGz_2286 b (2 * s)) (uGz_2287 (b + s) (2 * s))
theorem uGz_2289 (b s : Nat) : xall (fun _ a => a ∈ lw_tbl) 3 b s Gz_2289 := And.intro (uGz_2285 b (2 * s)) (uGz_2288 (b + s) (2 * s))
theorem uGz_2290 (b s : Nat) : xall (fun _ a => a ∈ lw_tbl) 1 b s Gz_2290 := And.intro uz_497 uz_0
theorem uGz_2291 (b s : Nat) : xall (fun _ a => a ∈ lw_tbl) 1 b s Gz_2291 := And.intro uz_1521 uz_0
theorem uGz_2292 (b s : Nat) : xall (fun _ a => a ∈ lw_tbl) 2 b s Gz_2292 := And.intro (uGz_2290 b (2 * s)) (uGz_2291 (b + s) (2 * s))
theorem uGz_2293 (b s : Nat) : xall (fun _ a => a ∈ lw_tbl) 1 b s Gz_2293 := And.intro uz_1009 uz_0
theorem uGz_2294 (b s : Nat) : xall (fun _ a => a ∈ lw_tbl) 1 b s Gz_2294 := And.intro uz_2033 uz_0
theorem uGz_2295 (b s : Nat) : xall (fun _ a => a ∈ lw_tbl) 2 b s Gz_2295 := And.intro (uGz_2293 b (2 * s)) (uGz_2294 (b + s) (2 * s))
theorem uGz_2296 (b s : Nat) : xall (fun _ a => a ∈ lw_tbl) 3 b s Gz_2296 := And.intro (uGz_2292 b (2 * s)) (uGz_2295 (b + s) (2 * s))
theorem uGz_2297 (b s : Nat) : xall (fun _ a => a ∈ lw_tbl) 4 b s Gz_2297 := And.intro (uGz_2289 b (2 * s)) (uGz_2296 (b + s) (2 * s))
theorem uGz_2298 (b s : Nat) : xall (fun _ a => a ∈ lw_tbl) 5 b s Gz_2298 := And.intro (uGz_2282 b (2 * s)) (uGz_2297 (b + s) (2 * s))
theorem uGz_2299 (b s : Nat) : xall (fun _ a => a ∈ lw_tbl) 6 b s Gz_2299 := And.intro (uGz_2267 b (2 * s)) (uGz_2298 (b + s) (2 * s))
theorem uGz_2300 (b s : Nat) : xall (fun _ a => a ∈ lw_tbl) 7 b s Gz_2300 := And.intro (uGz_2236 b (2 * s)) (uGz_2299 (b + s) (2 * s))
theorem uGz_2301 (b s : Nat) : xall (fun _ a => a ∈ lw_tbl) 8 b s Gz_2301 := And.intro (uGz_2173 b (2 * s)) (uGz_2300 (b + s) (2 * s))
theorem uGz_2302 (b s : Nat) : xall (fun _ a => a ∈ lw_tbl) 1 b s Gz_2302 := And.intro uz_9 uz_2057
theorem uGz_2303 (b s : Nat) : xall (fun _ a => a ∈ lw_tbl) 1 b s Gz_2303 := And.intro uz_1033 uz_0
theorem uGz_2304 (b s : Nat) : xall (fun _ a => a ∈ lw_tbl) 2 b s Gz_2304 := And.intro (uGz_2302 b (2 * s)) (uGz_2303 (b + s) (2 * s))
theorem uGz_2305 (b s : Nat) : xall (fun _ a => a ∈ lw_tbl) 1 b s Gz_2305 := And.intro uz_521 uz_0
theorem uGz_2306 (b s : Nat) : xall (fun _ a => a ∈ lw_tbl) 1 b s Gz_2306 := And.intro uz_1545 uz_0
theorem uGz_2307 (b s : Nat) : xall (fun _ a => a ∈ lw_tbl) 2 b s Gz_2307 := And.intro (uGz_2305 b (2 * s)) (uGz_2306 (b + s) (2 * s))
theorem uGz_2308 (b s : Nat) : xall (fun _ a => a ∈ lw_tbl) 3 b s Gz_2308 := And.intro (uGz_2304 b (2 * s)) (uGz_2307 (b + s) (2 * s))
theorem uGz_2309 (b s : Nat) : xall (fun _ a => a ∈ lw_tbl) 1 b s Gz_2309 := And.intro uz_265 uz_0
theorem uGz_2310 (b s : Nat) : xall (fun _ a => a ∈ lw_tbl) 1 b s Gz_2310 := And.intro uz_1289 uz_0
theorem uGz_2311 (b s : Nat) : xall (fun _ a => a ∈ lw_tbl) 2 b s Gz_2311 := And.intro (uGz_2309 b (2 * s)) (uGz_2310 (b + s) (2 * s))
theorem uGz_2312 (b s : Nat) : xall (fun _ a => a ∈ lw_tbl) 1 b s Gz_2312 := And.intro uz_777 uz_0
theorem uGz_2313 (b s : Nat) : xall (fun _ a => a ∈ lw_tbl) 1 b s Gz_2313 := And.intro uz_1801 uz_0
theorem uGz_2314 (b s : Nat) : xall (fun _ a => a ∈ lw_tbl) 2 b s Gz_2314 := And.intro (uGz_2312 b (2 * s)) (uGz_2313 (b + s) (2 * s))
theorem uGz_2315 (b s : Nat) : xall (fun _ a => a ∈ lw_tbl) 3 b s Gz_2315 := And.intro (uGz_2311 b (2 * s)) (uGz_2314 (b + s) (2 * s))
theorem uGz_2316 (b s : Nat) : xall (fun _ a => a ∈ lw_tbl) 4 b s Gz_2316 := And.intro (uGz_2308 b (2 * s)) (uGz_2315 (b + s) (2 * s))
theorem uGz_2317 (b s : Nat) : xall (fun _ a => a ∈ lw_tbl) 1 b s Gz_2317 := And.intro uz_137 uz_2185
theorem uGz_2318 (b s : Nat) : xall (fun _ a => a ∈ lw_tbl) 1 b s Gz_2318 := And.intro uz_1161 uz_0
theorem uGz_2319 (b s : Nat) : xall (fun _ a => a ∈ lw_tbl) 2 b s Gz_2319 := And.intro (uGz_2317 b (2 * s)) (uGz_2318 (b + s) (2 * s))
theorem uGz_2320 (b s : Nat) : xall (fun _ a => a ∈ lw_tbl) 1 b s Gz_2320 := And.intro uz_649 uz_0
theorem uGz_2321 (b s : Nat) : xall (fun _ a => a ∈ lw_tbl) 1 b s Gz_2321 := And.intro uz_1673 uz_0
theorem uGz_2322 (b s : Nat) : xall (fun _ a => a ∈ lw_tbl) 2 b s Gz_2322 := And.intro (uGz_2320 b (2 * s)) (uGz_2321 (b + s) (2 * s))
theorem uGz_2323 (b s : Nat) : xall (fun _ a => a ∈ lw_tbl) 3 b s Gz_2323 := And.intro (uGz_2319 b (2 * s)) (uGz_2322 (b + s) (2 * s))
theorem uGz_2324 (b s : Nat) : xall (fun _ a => a ∈ lw_tbl) 1 b s Gz_2324 := And.intro uz_393 uz_0
theorem uGz_2325 (b s : Nat) : xall (fun _ a => a ∈ lw_tbl) 1 b s Gz_2325 := And.intro uz_1417 uz_0
theorem uGz_2326 (b s : Nat) : xall (fun _ a => a ∈ lw_tbl) 2 b s Gz_2326 := And.intro (uGz_2324 b (2 * s)) (uGz_2325 (b + s) (2 * s))
theorem uGz_2327 (b s : Nat) : xall (fun _ a => a ∈ lw_tbl) 1 b s Gz_2327 := And.intro uz_905 uz_0
theorem uGz_2328 (b s : Nat) : xall (fun _ a => a ∈ lw_tbl) 1 b s Gz_2328 := And.intro uz_1929 uz_0
theorem uGz_2329 (b s : Nat) : xall (fun _ a => a ∈ lw_tbl) 2 b s Gz_2329 := And.intro (uGz_2327 b (2 * s)) (uGz_2328 (b + s) (2 * s))
theorem uGz_2330 (b s : Nat) : xall (fun _ a => a ∈ lw_tbl) 3 b s Gz_2330 := And.intro (uGz_2326 b (2 * s)) (uGz_2329 (b + s) (2 * s))
theorem uGz_2331 (b s : Nat) : xall (fun _ a => a ∈ lw_tbl) 4 b s Gz_2331 := And.intro (uGz_2323 b (2 * s)) (uGz_2330 (b + s) (2 * s))
theorem uGz_2332 (b s : Nat) : xall (fun _ a => a ∈ lw_tbl) 5 b s Gz_2332 := And.intro (uGz_2316 b (2 * s)) (uGz_2331 (b + s) (2 * s))
theorem uGz_2333 (b s : Nat) : xall (fun _ a => a ∈ lw_tbl) 1 b s Gz_2333 := And.intro uz_73 uz_2121
theorem uGz_2334 (b s : Nat) : xall (fun _ a => a ∈ lw_tbl) 1 b s Gz_2334 := And.intro uz_1097 uz_0
theorem uGz_2335 (b s : Nat) : xall (fun _ a => a ∈ lw_tbl) 2 b s Gz_2335 := And.intro (uGz_2333 b (2 * s)) (uGz_2334 (b + s) (2 * s))
theorem uGz_2336 (b s : Nat) : xall (fun _ a => a ∈ lw_tbl) 1 b s Gz_2336 := And.intro uz_585 uz_0
theorem uGz_2337 (b s : Nat) : xall (fun _ a => a ∈ lw_tbl) 1 b s Gz_2337 := And.intro uz_1609 uz_0
theorem uGz_2338 (b s : Nat) : xall (fun _ a => a ∈ lw_tbl) 2 b s Gz_2338 := And.intro (uGz_2336 b (2 * s)) (uGz_2337 (b + s) (2 * s))
theorem uGz_2339 (b s : Nat) : xall (fun _ a => a ∈ lw_tbl) 3 b s Gz_2339 := And.intro (uGz_2335 b (2 * s)) (uGz_2338 (b + s) (2 * s))
theorem uGz_2340 (b s : Nat) : xall (fun _ a => a ∈ lw_tbl) 1 b s Gz_2340 := And.intro uz_329 uz_0
theorem uGz_2341 (b s : Nat) : xall (fun _ a => a ∈ lw_tbl) 1 b s Gz_2341 := And.intro uz_1353 uz_0
theorem uGz_2342 (b s : Nat) : xall (fun _ a => a ∈ lw_tbl) 2 b s Gz_2342 := And.intro (uGz_2340 b (2 * s)) (uGz_2341 (b + s) (2 * s))
theorem uGz_2343 (b s : Nat) : xall (fun _ a => a ∈ lw_tbl) 1 b s Gz_2343 := And.intro uz_841 uz_0
theorem uGz_2344 (b s : Nat) : xall (fun _ a => a ∈ lw_tbl) 1 b s Gz_2344 := And.intro uz_1865 uz_0
theorem uGz_2345 (b s : Nat) : xall (fun _ a => a ∈ lw_tbl) 2 b s Gz_2345 := And.intro (uGz_2343 b (2 * s)) (uGz_2344 (b + s) (2 * s))
theorem uGz_2346 (b s : Nat) : xall (fun _ a => a ∈ lw_tbl) 3 b s Gz_2346 := And.intro (uGz_2342 b (2 * s)) (uGz_2345 (b + s) (2 * s))
theorem uGz_2347 (b s : Nat) : xall (fun _ a => a ∈ lw_tbl) 4 b s Gz_2347 := And.intro (uGz_2339 b (2 * s)) (uGz_2346 (b + s) (2 * s))
theorem uGz_2348 (b s : Nat) : xall (fun _ a => a ∈ lw_tbl) 1 b s Gz_2348 := And.intro uz_201 uz_2249
theorem uGz_2349 (b s : Nat) : xall (fun _ a => a ∈ lw_tbl) 1 b s Gz_2349 := And.intro uz_1225 uz_0
theorem uGz_2350 (b s : Nat) : xall (fun _ a => a ∈ lw_tbl) 2 b s Gz_2350 := And.intro (uGz_2348 b (2 * s)) (uGz_2349 (b + s) (2 * s))
theorem uGz_2351 (b s : Nat) : xall (fun _ a => a ∈ lw_tbl) 1 b s Gz_2351 := And.intro uz_713 uz_0
theorem uGz_2352 (b s : Nat) : xall (fun _ a => a ∈ lw_tbl) 1 b s Gz_2352 := And.intro uz_1737 uz_0
theorem uGz_2353 (b s : Nat) : xall (fun _ a => a ∈ lw_tbl) 2 b s Gz_2353 := And.intro (uGz_2351 b (2 * s)) (uGz_2352 (b + s) (2 * s))
theorem uGz_2354 (b s : Nat) : xall (fun _ a => a ∈ lw_tbl) 3 b s Gz_2354 := And.intro (uGz_2350 b (2 * s)) (uGz_2353 (b + s) (2 * s))
theorem uGz_2355 (b s : Nat) : xall (fun _ a => a ∈ lw_tbl) 1 b s Gz_2355 := And.intro uz_457 uz_0
theorem uGz_2356 (b s : Nat) : xall (fun _ a => a ∈ lw_tbl) 1 b s Gz_2356 := And.intro uz_1481 uz_0
theorem uGz_2357 (b s : Nat) : xall (fun _ a => a ∈ lw_tbl) 2 b s Gz_2357 := And.intro (uGz_2355 b (2 * s)) (uGz_2356 (b + s) (2 * s))
theorem uGz_2358 (b s : Nat) : xall (fun _ a => a ∈ lw_tbl) 1 b s Gz_2358 := And.intro uz_969 uz_0
theorem uGz_2359 (b s : Nat) : xall (fun _ a => a ∈ lw_tbl) 1 b s Gz_2359 := And.intro uz_1993 uz_0
theorem uGz_2360 (b s : Nat) : xall (fun _ a => a ∈ lw_tbl) 2 b s Gz_2360 := And.intro (uGz_2358 b (2 * s)) (uGz_2359 (b + s) (2 * s))
theorem uGz_2361 (b s : Nat) : xall (fun _ a => a ∈ lw_tbl) 3 b s Gz_2361 := And.intro (uGz_2357 b (2 * s)) (uGz_2360 (b + s) (2 * s))
theorem uGz_2362 (b s : Nat) : xall (fun _ a => a ∈ lw_tbl) 4 b s Gz_2362 := And.intro (uGz_2354 b (2 * s)) (uGz_2361 (b + s) (2 * s))
theorem uGz_2363 (b s : Nat) : xall (fun _ a => a ∈ lw_tbl) 5 b s Gz_2363 := And.intro (uGz_2347 b (2 * s)) (uGz_2362 (b + s) (2 * s))
theorem uGz_2364 (b s : Nat) : xall (fun _ a => a ∈ lw_tbl) 6 b s Gz_2364 := And.intro (uGz_2332 b (2 * s)) (uGz_2363 (b + s) (2 * s))
theorem uGz_2365 (b s : Nat) : xall (fun _ a => a ∈ lw_tbl) 1 b s Gz_2365 := And.intro uz_41 uz_2089
theorem uGz_2366 (b s : Nat) : xall (fun _ a => a ∈ lw_tbl) 1 b s Gz_2366 := And.intro uz_1065 uz_0
theorem uGz_2367 (b s : Nat) : xall (fun _ a => a ∈ lw_tbl) 2 b s Gz_2367 := And.intro (uGz_2365 b (2 * s)) (uGz_2366 (b + s) (2 * s))
theorem uGz_2368 (b s : Nat) : xall (fun _ a => a ∈ lw_tbl) 1 b s Gz_2368 := And.intro uz_553 uz_0
theorem uGz_2369 (b s : Nat) : xall (fun _ a => a ∈ lw_tbl) 1 b s Gz_2369 := And.intro uz_1577 uz_0
theorem uGz_2370 (b s : Nat) : xall (fun _ a => a ∈ lw_tbl) 2 b s Gz_2370 := And.intro (uGz_2368 b (2 * s)) (uGz_2369 (b + s) (2 * s))
theorem uGz_2371 (b s : Nat) : xall (fun _ a => a ∈ lw_tbl) 3 b s Gz_2371 := And.intro (uGz_2367 b (2 * s)) (uGz_2370 (b + s) (2 * s))
theorem uGz_2372 (b s : Nat) : xall (fun _ a => a ∈ lw_tbl) 1 b s Gz_2372 := And.intro uz_297 uz_0
theorem uGz_2373 (b s : Nat) : xall (fun _ a => a ∈ lw_tbl) 1 b s Gz_2373 := And.intro uz_1321 uz_0
theorem uGz_2374 (b s : Nat) : xall (fun _ a => a ∈ lw_tbl) 2 b s Gz_2374 := And.intro (uGz_2372 b (2 * s)) (uGz_2373 (b + s) (2 * s))
theorem uGz_2375 (b s : Nat) : xall (fun _ a => a ∈ lw_tbl) 1 b s Gz_2375 := And.intro uz_809 uz_0
theorem uGz_2376 (b s : Nat) : xall (fun _ a => a ∈ lw_tbl) 1 b s Gz_2376 := And.intro uz_1833 uz_0
theorem uGz_2377 (b s : Nat) : xall (fun _ a => a ∈ lw_tbl) 2 b s Gz_2377 := And.intro (uGz_2375 b (2 * s)) (uGz_2376 (b + s) (2 * s))
theorem uGz_2378 (b s : Nat) : xall (fun _ a => a ∈ lw_tbl) 3 b s Gz_2378 := And.intro (uGz_2374 b (2 * s)) (uGz_2377 (b + s) (2 * s))
theorem uGz_2379 (b s : Nat) : xall (fun _ a => a ∈ lw_tbl) 4 b s Gz_2379 := And.intro (uGz_2371 b (2 * s)) (uGz_2378 (b + s) (2 * s))
theorem uGz_2380 (b s : Nat) : xall (fun _ a => a ∈ lw_tbl) 1 b s Gz_2380 := And.intro uz_169 uz_2217
theorem uGz_2381 (b s : Nat) : xall (fun _ a => a ∈ lw_tbl) 1 b s Gz_2381 := And.intro uz_1193 uz_0
theorem uGz_2382 (b s : Nat) : xall (fun _ a => a ∈ lw_tbl) 2 b s Gz_2382 := And.intro (uGz_2380 b (2 * s)) (uGz_2381 (b + s) (2 * s))
theorem uGz_2383 (b s : Nat) : xall (fun _ a => a ∈ lw_tbl) 1 b s Gz_2383 := And.intro uz_681 uz_0
theorem uGz_2384 (b s : Nat) : xall (fun _ a => a ∈ lw_tbl) 1 b s Gz_2384 := And.intro uz_1705 uz_0
theorem uGz_2385 (b s : Nat) : xall (fun _ a => a ∈ lw_tbl) 2 b s Gz_2385 := And.intro (uGz_2383 b (2 * s)) (uGz_2384 (b + s) (2 * s))
theorem uGz_2386 (b s : Nat) : xall (fun _ a => a ∈ lw_tbl) 3 b s Gz_2386 := And.intro (uGz_2382 b (2 * s)) (uGz_2385 (b + s) (2 * s))
theorem uGz_2387 (b s : Nat) : xall (fun _ a => a ∈ lw_tbl) 1 b s Gz_2387 := And.intro uz_425 uz_0
theorem uGz_2388 (b s : Nat) : xall (fun _ a => a ∈ lw_tbl) 1 b s Gz_2388 := And.intro uz_1449 uz_0
theorem uGz_2389 (b s : Nat) : xall (fun _ a => a ∈ lw_tbl) 2 b s Gz_2389 := And.intro (uGz_2387 b (2 * s)) (uGz_2388 (b + s) (2 * s))
theorem uGz_2390 (b s : Nat) : xall (fun _ a => a ∈ lw_tbl) 1 b s Gz_2390 := And.intro uz_937 uz_0
theorem uGz_2391 (b s : Nat) : xall (fun _ a => a ∈ lw_tbl) 1 b s Gz_2391 := And.intro uz_1961 uz_0
theorem uGz_2392 (b s : Nat) : xall (fun _ a => a ∈ lw_tbl) 2 b s Gz_2392 := And.intro (uGz_2390 b (2 * s)) (uGz_2391 (b + s) (2 * s))
theorem uGz_2393 (b s : Nat) : xall (fun _ a => a ∈ lw_tbl) 3 b s Gz_2393 := And.intro (uGz_2389 b (2 * s)) (uGz_2392 (b + s) (2 * s))
theorem uGz_2394 (b s : Nat) : xall (fun _ a => a ∈ lw_tbl) 4 b s Gz_2394 := And.intro (uGz_2386 b (2 * s)) (uGz_2393 (b + s) (2 * s))
theorem uGz_2395 (b s : Nat) : xall (fun _ a => a ∈ lw_tbl) 5 b s Gz_2395 := And.intro (uGz_2379 b (2 * s)) (uGz_2394 (b + s) (2 * s))
theorem uGz_2396 (b s : Nat) : xall (fun _ a => a ∈ lw_tbl) 1 b s Gz_2396 := And.intro uz_105 uz_2153
theorem uGz_2397 (b s : Nat) : xall (fun _ a => a ∈ lw_tbl) 1 b s Gz_2397 := And.intro uz_1129 uz_0
theorem uGz_2398 (b s : Nat) : xall (fun _ a => a ∈ lw_tbl) 2 b s Gz_2398 := And.intro (uGz_2396 b (2 * s)) (uGz_2397 (b + s) (2 * s))
theorem uGz_2399 (b s : Nat) : xall (fun _ a => a ∈ lw_tbl) 1 b s Gz_2399 := And.intro uz_617 uz_0
theorem uGz_2400 (b s : Nat) : xall (fun _ a => a ∈ lw_tbl) 1 b s Gz_2400 := And.intro uz_1641 uz_0
theorem uGz_2401 (b s : Nat) : xall (fun _ a => a ∈ lw_tbl) 2 b s Gz_2401 := And.intro (uGz_2399 b (2 * s)) (uGz_2400 (b + s) (2 * s))
theorem uGz_2402 (b s : Nat) : xall (fun _ a => a ∈ lw_tbl) 3 b s Gz_2402 := And.intro (uGz_2398 b (2 * s)) (uGz_2401 (b + s) (2 * s))
theorem uGz_2403 (b s : Nat) : xall (fun _ a => a ∈ lw_tbl) 1 b s Gz_2403 := And.intro uz_361 uz_0
theorem uGz_2404 (b s : Nat) : xall (fun _ a => a ∈ lw_tbl) 1 b s Gz_2404 := And.intro uz_1385 uz_0
theorem uGz_2405 (b s : Nat) : xall (fun _ a => a ∈ lw_tbl) 2 b s Gz_2405 := And.intro (uGz_2403 b (2 * s)) (uGz_2404 (b + s) (2 * s))
theorem uGz_2406 (b s : Nat) : xall (fun _ a => a ∈ lw_tbl) 1 b s Gz_2406 := And.intro uz_873 uz_0
theorem uGz_2407 (b s : Nat) : xall (fun _ a => a ∈ lw_tbl) 1 b s Gz_2407 := And.intro uz_1897 uz_0
theorem uGz_2408 (b s : Nat) : xall (fun _ a => a ∈ lw_tbl) 2 b s Gz_2408 := And.intro (uGz_2406 b (2 * s)) (uGz_2407 (b + s) (2 * s))
theorem uGz_2409 (b s : Nat) : xall (fun _ a => a ∈ lw_tbl) 3 b s Gz_2409 := And.intro (uGz_2405 b (2 * s)) (uGz_2408 (b + s) (2 * s))
theorem uGz_2410 (b s : Nat) : xall (fun _ a => a ∈ lw_tbl) 4 b s Gz_2410 := And.intro (uGz_2402 b (2 * s)) (uGz_2409 (b + s) (2 * s))
theorem uGz_2411 (b s : Nat) : xall (fun _ a => a ∈ lw_tbl) 1 b s Gz_2411 := And.intro uz_233 uz_0
theorem uGz_2412 (b s : Nat) : xall (fun _ a => a ∈ lw_tbl) 1 b s Gz_2412 := And.intro uz_1257 uz_0
theorem uGz_2413 (b s : Nat) : xall (fun _ a => a ∈ lw_tbl) 2 b s Gz_2413 := And.intro (uGz_2411 b (2 * s)) (uGz_2412 (b + s) (2 * s))
theorem uGz_2414 (b s : Nat) : xall (fun _ a => a ∈ lw_tbl) 1 b s Gz_2414 := And.intro uz_745 uz_0
theorem uGz_2415 (b s : Nat) : xall (fun _ a => a ∈ lw_tbl) 1 b s Gz_2415 := And.intro uz_1769 uz_0
theorem uGz_2416 (b s : Nat) : xall (fun _ a => a ∈ lw_tbl) 2 b s Gz_2416 := And.intro (uGz_2414 b (2 * s)) (uGz_2415 (b + s) (2 * s))
theorem uGz_2417 (b s : Nat) : xall (fun _ a => a ∈ lw_tbl) 3 b s Gz_2417 := And.intro (uGz_2413 b (2 * s)) (uGz_2416 (b + s) (2 * s))
theorem uGz_2418 (b s : Nat) : xall (fun _ a => a ∈ lw_tbl) 1 b s Gz_2418 := And.intro uz_489 uz_0
theorem uGz_2419 (b s : Nat) : xall (fun _ a => a ∈ lw_tbl) 1 b s Gz_2419 := And.intro uz_1513 uz_0
theorem uGz_2420 (b s : Nat) : xall (fun _ a => a ∈ lw_tbl) 2 b s Gz_2420 := And.intro (uGz_2418 b (2 * s)) (uGz_2419 (b + s) (2 * s))
theorem uGz_2421 (b s : Nat) : xall (fun _ a => a ∈ lw_tbl) 1 b s Gz_2421 := And.intro uz_1001 uz_0
theorem uGz_2422 (b s : Nat) : xall (fun _ a => a ∈ lw_tbl) 1 b s Gz_2422 := And.intro uz_2025 uz_0
theorem uGz_2423 (b s : Nat) : xall (fun _ a => a ∈ lw_tbl) 2 b s Gz_2423 := And.intro (uGz_2421 b (2 * s)) (uGz_2422 (b + s) (2 * s))
theorem uGz_2424 (b s : Nat) : xall (fun _ a => a ∈ lw_tbl) 3 b s Gz_2424 := And.intro (uGz_2420 b (2 * s)) (uGz_2423 (b + s) (2 * s))
theorem uGz_2425 (b s : Nat) : xall (fun _ a => a ∈ lw_tbl) 4 b s Gz_2425 := And.intro (uGz_2417 b (2 * s)) (uGz_2424 (b + s) (2 * s))
theorem uGz_2426 (b s : Nat) : xall (fun _ a => a ∈ lw_tbl) 5 b s Gz_2426 := And.intro (uGz_2410 b (2 * s)) (uGz_2425 (b + s) (2 * s))
theorem uGz_2427 (b s : Nat) : xall (fun _ a => a ∈ lw_tbl) 6 b s Gz_2427 := And.intro (uGz_2395 b (2 * s)) (uGz_2426 (b + s) (2 * s))
theorem uGz_2428 (b s : Nat) : xall (fun _ a => a ∈ lw_tbl) 7 b s Gz_2428 := And.intro (uGz_2364 b (2 * s)) (uGz_2427 (b + s) (2 * s))
theorem uGz_2429 (b s : Nat) : xall (fun _ a => a ∈ lw_tbl) 1 b s Gz_2429 := And.intro uz_25 uz_2073
theorem uGz_2430 (b s : Nat) : xall (fun _ a => a ∈ lw_tbl) 1 b s Gz_2430 := And.intro uz_1049 uz_0
theorem uGz_2431 (b s : Nat) : xall (fun _ a => a ∈ lw_tbl) 2 b s Gz_2431 := And.intro (uGz_2429 b (2 * s)) (uGz_2430 (b + s) (2 * s))
theorem uGz_2432 (b s : Nat) : xall (fun _ a => a ∈ lw_tbl) 1 b s Gz_2432 := And.intro uz_537 uz_0
theorem uGz_2433 (b s : Nat) : xall (fun _ a => a ∈ lw_tbl) 1 b s Gz_2433 := And.intro uz_1561 uz_0
theorem uGz_2434 (b s : Nat) : xall (fun _ a => a ∈ lw_tbl) 2 b s Gz_2434 := And.intro (uGz_2432 b (2 * s)) (uGz_2433 (b + s) (2 * s))
theorem uGz_2435 (b s : Nat) : xall (fun _ a => a ∈ lw_tbl) 3 b s Gz_2435 := And.intro (uGz_2431 b (2 * s)) (uGz_2434 (b + s) (2 * s))
theorem uGz_2436 (b s : Nat) : xall (fun _ a => a ∈ lw_tbl) 1 b s Gz_2436 := And.intro uz_281 uz_0
theorem uGz_2437 (b s : Nat) : xall (fun _ a => a ∈ lw_tbl) 1 b s Gz_2437 := And.intro uz_1305 uz_0
theorem uGz_2438 (b s : Nat) : xall (fun _ a => a ∈ lw_tbl) 2 b s Gz_2438 := And.intro (uGz_2436 b (2 * s)) (uGz_2437 (b + s) (2 * s))
theorem uGz_2439 (b s : Nat) : xall (fun _ a => a ∈ lw_tbl) 1 b s Gz_2439 := And.intro uz_793 uz_0
theorem uGz_2440 (b s : Nat) : xall (fun _ a => a ∈ lw_tbl) 1 b s Gz_2440 := And.intro uz_1817 uz_0
theorem uGz_2441 (b s : Nat) : xall (fun _ a => a ∈ lw_tbl) 2 b s Gz_2441 := And.intro (uGz_2439 b (2 * s)) (uGz_2440 (b + s) (2 * s))
theorem uGz_2442 (b s : Nat) : xall (fun _ a => a ∈ lw_tbl) 3 b s Gz_2442 := And.intro (uGz_2438 b (2 * s)) (uGz_2441 (b + s) (2 * s))
theorem uGz_2443 (b s : Nat) : xall (fun _ a => a ∈ lw_tbl) 4 b s Gz_2443 := And.intro (uGz_2435 b (2 * s)) (uGz_2442 (b + s) (2 * s))
theorem uGz_2444 (b s : Nat) : xall (fun _ a => a ∈ lw_tbl) 1 b s Gz_2444 := And.intro uz_153 uz_2201
theorem uGz_2445 (b s : Nat) : xall (fun _ a => a ∈ lw_tbl) 1 b s Gz_2445 := And.intro uz_1177 uz_0
theorem uGz_2446 (b s : Nat) : xall (fun _ a => a ∈ lw_tbl) 2 b s Gz_2446 := And.intro (uGz_2444 b (2 * s)) (uGz_2445 (b + s) (2 * s))
theorem uGz_2447 (b s : Nat) : xall (fun _ a => a ∈ lw_tbl) 1 b s Gz_2447 := And.intro uz_665 uz_0
theorem uGz_2448 (b s : Nat) : xall (fun _ a => a ∈ lw_tbl) 1 b s Gz_2448 := And.intro uz_1689 uz_0
theorem uGz_2449 (b s : Nat) : xall (fun _ a => a ∈ lw_tbl) 2 b s Gz_2449 := And.intro (uGz_2447 b (2 * s)) (uGz_2448 (b + s) (2 * s))
theorem uGz_2450 (b s : Nat) : xall (fun _ a => a ∈ lw_tbl) 3 b s Gz_2450 := And.intro (uGz_2446 b (2 * s)) (uGz_2449 (b + s) (2 * s))
theorem uGz_2451 (b s : Nat) : xall (fun _ a => a ∈ lw_tbl) 1 b s Gz_2451 := And.intro uz_409 uz_0
theorem uGz_2452 (b s : Nat) : xall (fun _ a => a ∈ lw_tbl) 1 b s Gz_2452 := And.intro uz_1433 uz_0
theorem uGz_2453 (b s : Nat) : xall (fun _ a => a ∈ lw_tbl) 2 b s Gz_2453 := And.intro (uGz_2451 b (2 * s)) (uGz_2452 (b + s) (2 * s))
theorem uGz_2454 (b s : Nat) : xall (fun _ a => a ∈ lw_tbl) 1 b s Gz_2454 := And.intro uz_921 uz_0
theorem uGz_2455 (b s : Nat) : xall (fun _ a => a ∈ lw_tbl) 1 b s Gz_2455 := And.intro uz_1945 uz_0
theorem uGz_2456 (b s : Nat) : xall (fun _ a => a ∈ lw_tbl) 2 b s Gz_2456 := And.intro (uGz_2454 b (2 * s)) (uGz_2455 (b + s) (2 * s))
theorem uGz_2457 (b s : Nat) : xall (fun _ a => a ∈ lw_tbl) 3 b s Gz_2457 := And.intro (uGz_2453 b (2 * s)) (uGz_2456 (b + s) (2 * s))
theorem uGz_2458 (b s : Nat) : xall (fun _ a => a ∈ lw_tbl) 4 b s Gz_2458 := And.intro (uGz_2450 b (2 * s)) (uGz_2457 (b + s) (2 * s))
theorem uGz_2459 (b s : Nat) : xall (fun _ a => a ∈ lw_tbl) 5 b s Gz_2459 := And.intro (uGz_2443 b (2 * s)) (uGz_2458 (b + s) (2 * s))
theorem uGz_2460 (b s : Nat) : xall (fun _ a => a ∈ lw_tbl) 1 b s Gz_2460 := And.intro uz_89 uz_2137
theorem uGz_2461 (b s : Nat) : xall (fun _ a => a ∈ lw_tbl) 1 b s Gz_2461 := And.intro uz_1113 uz_0
theorem uGz_2462 (b s : Nat) : xall (fun _ a => a ∈ lw_tbl) 2 b s Gz_2462 := And.intro (uGz_2460 b (2 * s)) (uGz_2461 (b + s) (2 * s))
theorem uGz_2463 (b s : Nat) : xall (fun _ a => a ∈ lw_tbl) 1 b s Gz_2463 := And.intro uz_601 uz_0
theorem uGz_2464 (b s : Nat) : xall (fun _ a => a ∈ lw_tbl) 1 b s Gz_2464 := And.intro uz_1625 uz_0
theorem uGz_2465 (b s : Nat) : xall (fun _ a => a ∈ lw_tbl) 2 b s Gz_2465 := And.intro (uGz_2463 b (2 * s)) (uGz_2464 (b + s) (2 * s))
theorem uGz_2466 (b s : Nat) : xall (fun _ a => a ∈ lw_tbl) 3 b s Gz_2466 := And.intro (uGz_2462 b (2 * s)) (uGz_2465 (b + s) (2 * s))
theorem uGz_2467 (b s : Nat) : xall (fun _ a => a ∈ lw_tbl) 1 b s Gz_2467 := And.intro uz_345 uz_0
theorem uGz_2468 (b s : Nat) : xall (fun _ a => a ∈ lw_tbl) 1 b s Gz_2468 := And.intro uz_1369 uz_0
theorem uGz_2469 (b s : Nat) : xall (fun _ a => a ∈ lw_tbl) 2 b s Gz_2469 := And.intro (uGz_2467 b (2 * s)) (uGz_2468 (b + s) (2 * s))
theorem uGz_2470 (b s : Nat) : xall (fun _ a => a ∈ lw_tbl) 1 b s Gz_2470 := And.intro uz_857 uz_0
theorem uGz_2471 (b s : Nat) : xall (fun _ a => a ∈ lw_tbl) 1 b s Gz_2471 := And.intro uz_1881 uz_0
theorem uGz_2472 (b s : Nat) : xall (fun _ a => a ∈ lw_tbl) 2 b s Gz_2472 := And.intro (uGz_2470 b (2 * s)) (uGz_2471 (b + s) (2 * s))
theorem uGz_2473 (b s : Nat) : xall (fun _ a => a ∈ lw_tbl) 3 b s Gz_2473 := And.intro (uGz_2469 b (2 * s)) (uGz_2472 (b + s) (2 * s))
theorem uGz_2474 (b s : Nat) : xall (fun _ a => a ∈ lw_tbl) 4 b s Gz_2474 := And.intro (uGz_2466 b (2 * s)) (uGz_2473 (b + s) (2 * s))
theorem uGz_2475 (b s : Nat) : xall (fun _ a => a ∈ lw_tbl) 1 b s Gz_2475 := And.intro uz_217 uz_0
theorem uGz_2476 (b s : Nat) : xall (fun _ a => a ∈ lw_tbl) 1 b s Gz_2476 := And.intro uz_1241 uz_0
theorem uGz_2477 (b s : Nat) : xall (fun _ a => a ∈ lw_tbl) 2 b s Gz_2477 := And.intro (uGz_2475 b (2 * s)) (uGz_2476 (b + s) (2 * s))
theorem uGz_2478 (b s : Nat) : xall (fun _ a => a ∈ lw_tbl) 1 b s Gz_2478 := And.intro uz_729 uz_0
theorem uGz_2479 (b s : Nat) : xall (fun _ a => a ∈ lw_tbl) 1 b s Gz_2479 := And.intro uz_1753 uz_0
theorem uGz_2480 (b s : Nat) : xall (fun _ a => a ∈ lw_tbl) 2 b s Gz_2480 := And.intro (uGz_2478 b (2 * s)) (uGz_2479 (b + s) (2 * s))
theorem uGz_2481 (b s : Nat) : xall (fun _ a => a ∈ lw_tbl) 3 b s Gz_2481 := And.intro (uGz_2477 b (2 * s)) (uGz_2480 (b + s) (2 * s))
theorem uGz_2482 (b s : Nat) : xall (fun _ a => a ∈ lw_tbl) 1 b s Gz_2482 := And.intro uz_473 uz_0
theorem uGz_2483 (b s : Nat) : xall (fun _ a => a ∈ lw_tbl) 1 b s Gz_2483 := And.intro uz_1497 uz_0
theorem uGz_2484 (b s : Nat) : xall (fun _ a => a ∈ lw_tbl) 2 b s Gz_2484 := And.intro (uGz_2482 b (2 * s)) (uGz_2483 (b + s) (2 * s))
theorem uGz_2485 (b s : Nat) : xall (fun _ a => a ∈ lw_tbl) 1 b s Gz_2485 := And.intro uz_985 uz_0
theorem uGz_2486 (b s : Nat) : xall (fun _ a => a ∈ lw_tbl) 1 b s Gz_2486 := And.intro uz_2009 uz_0
theorem uGz_2487 (b s : Nat) : xall (fun _ a => a ∈ lw_tbl) 2 b s Gz_2487 := And.intro (uGz_2485 b (2 * s)) (uGz_2486 (b + s) (2 * s))
theorem uGz_2488 (b s : Nat) : xall (fun _ a => a ∈ lw_tbl) 3 b s Gz_2488 := And.intro (uGz_2484 b (2 * s)) (uGz_2487 (b + s) (2 * s))
theorem uGz_2489 (b s : Nat) : xall (fun _ a => a ∈ lw_tbl) 4 b s Gz_2489 := And.intro (uGz_2481 b (2 * s)) (uGz_2488 (b + s) (2 * s))
theorem uGz_2490 (b s : Nat) : xall (fun _ a => a ∈ lw_tbl) 5 b s Gz_2490 := And.intro (uGz_2474 b (2 * s)) (uGz_2489 (b + s) (2 * s))
theorem uGz_2491 (b s : Nat) : xall (fun _ a => a ∈ lw_tbl) 6 b s Gz_2491 := And.intro (uGz_2459 b (2 * s)) (uGz_2490 (b + s) (2 * s))
theorem uGz_2492 (b s : Nat) : xall (fun _ a => a ∈ lw_tbl) 1 b s Gz_2492 := And.intro uz_57 uz_2105
theorem uGz_2493 (b s : Nat) : xall (fun _ a => a ∈ lw_tbl) 1 b s Gz_2493 := And.intro uz_1081 uz_0
theorem uGz_2494 (b s : Nat) : xall (fun _ a => a ∈ lw_tbl) 2 b s Gz_2494 := And.intro (uGz_2492 b (2 * s)) (uGz_2493 (b + s) (2 * s))
theorem uGz_2495 (b s : Nat) : xall (fun _ a => a ∈ lw_tbl) 1 b s Gz_2495 := And.intro uz_569 uz_0
theorem uGz_2496 (b s : Nat) : xall (fun _ a => a ∈ lw_tbl) 1 b s Gz_2496 := And.intro uz_1593 uz_0
theorem uGz_2497 (b s : Nat) : xall (fun _ a => a ∈ lw_tbl) 2 b s Gz_2497 := And.intro (uGz_2495 b (2 * s)) (uGz_2496 (b + s) (2 * s))
theorem uGz_2498 (b s : Nat) : xall (fun _ a => a ∈ lw_tbl) 3 b s Gz_2498 := And.intro (uGz_2494 b (2 * s)) (uGz_2497 (b + s) (2 * s))
theorem uGz_2499 (b s : Nat) : xall (fun _ a => a ∈ lw_tbl) 1 b s Gz_2499 := And.intro uz_313 uz_0
theorem uGz_2500 (b s : Nat) : xall (fun _ a => a ∈ lw_tbl) 1 b s Gz_2500 := And.intro uz_1337 uz_0
theorem uGz_2501 (b s : Nat) : xall (fun _ a => a ∈ lw_tbl) 2 b s Gz_2501 := And.intro (uGz_2499 b (2 * s)) (uGz_2500 (b + s) (2 * s))
theorem uGz_2502 (b s : Nat) : xall (fun _ a => a ∈ lw_tbl) 1 b s Gz_2502 := And.intro uz_825 uz_0
theorem uGz_2503 (b s : Nat) : xall (fun _ a => a ∈ lw_tbl) 1 b s Gz_2503 := And.intro uz_1849 uz_0
theorem uGz_2504 (b s : Nat) : xall (fun _ a => a ∈ lw_tbl) 2 b s Gz_2504 := And.intro (uGz_2502 b (2 * s)) (uGz_2503 (b + s) (2 * s))
theorem uGz_2505 (b s : Nat) : xall (fun _ a => a ∈ lw_tbl) 3 b s Gz_2505 := And.intro (uGz_2501 b (2 * s)) (uGz_2504 (b + s) (2 * s))
theorem uGz_2506 (b s : Nat) : xall (fun _ a => a ∈ lw_tbl) 4 b s Gz_2506 := And.intro (uGz_2498 b (2 * s)) (uGz_2505 (b + s) (2 * s))
theorem uGz_2507 (b s : Nat) : xall (fun _ a => a ∈ lw_tbl) 1 b s Gz_2507 := And.intro uz_185 uz_2233
theorem uGz_2508 (b s : Nat) : xall (fun _ a => a ∈ lw_tbl) 1 b s Gz_2508 := And.intro uz_1209 uz_0
theorem uGz_2509 (b s : Nat) : xall (fun _ a => a ∈ lw_tbl) 2 b s Gz_2509 := And.intro (uGz_2507 b (2 * s)) (uGz_2508 (b + s) (2 * s))
theorem uGz_2510 (b s : Nat) : xall (fun _ a => a ∈ lw_tbl) 1 b s Gz_2510 := And.intro uz_697 uz_0
theorem uGz_2511 (b s : Nat) : xall (fun _ a => a ∈ lw_tbl) 1 b s Gz_2511 := And.intro uz_1721 uz_0
theorem uGz_2512 (b s : Nat) : xall (fun _ a => a ∈ lw_tbl) 2 b s Gz_2512 := And.intro (uGz_2510 b (2 * s)) (uGz_2511 (b + s) (2 * s))
theorem uGz_2513 (b s : Nat) : xall (fun _ a => a ∈ lw_tbl) 3 b s Gz_2513 := And.intro (uGz_2509 b (2 * s)) (uGz_2512 (b + s) (2 * s))
theorem uGz_2514 (b s : Nat) : xall (fun _ a => a ∈ lw_tbl) 1 b s Gz_2514 := And.intro uz_441 uz_0
theorem uGz_2515 (b s : Nat) : xall (fun _ a => a ∈ lw_tbl) 1 b s Gz_2515 := And.intro uz_1465 uz_0
theorem uGz_2516 (b s : Nat) : xall (fun _ a => a ∈ lw_tbl) 2 b s Gz_2516 := And.intro (uGz_2514 b (2 * s)) (uGz_2515 (b + s) (2 * s))
theorem uGz_2517 (b s : Nat) : xall (fun _ a => a ∈ lw_tbl) 1 b s Gz_2517 := And.intro uz_953 uz_0
theorem uGz_2518 (b s : Nat) : xall (fun _ a => a ∈ lw_tbl) 1 b s Gz_2518 := And.intro uz_1977 uz_0
theorem uGz_2519 (b s : Nat) : xall (fun _ a => a ∈ lw_tbl) 2 b s Gz_2519 := And.intro (uGz_2517 b (2 * s)) (uGz_2518 (b + s) (2 * s))
theorem uGz_2520 (b s : Nat) : xall (fun _ a => a ∈ lw_tbl) 3 b s Gz_2520 := And.intro (uGz_2516 b (2 * s)) (uGz_2519 (b + s) (2 * s))
theorem uGz_2521 (b s : Nat) : xall (fun _ a => a ∈ lw_tbl) 4 b s Gz_2521 := And.intro (uGz_2513 b (2 * s)) (uGz_2520 (b + s) (2 * s))
theorem uGz_2522 (b s : Nat) : xall (fun _ a => a ∈ lw_tbl) 5 b s Gz_2522 := And.intro (uGz_2506 b (2 * s)) (uGz_2521 (b + s) (2 * s))
theorem uGz_2523 (b s : Nat) : xall (fun _ a => a ∈ lw_tbl) 1 b s Gz_2523 := And.intro uz_121 uz_2169
theorem uGz_2524 (b s : Nat) : xall (fun _ a => a ∈ lw_tbl) 1 b s Gz_2524 := And.intro uz_1145 uz_0
theorem uGz_2525 (b s : Nat) : xall (fun _ a => a ∈ lw_tbl) 2 b s Gz_2525 := And.intro (uGz_2523 b (2 * s)) (uGz_2524 (b + s) (2 * s))
theorem uGz_2526 (b s : Nat) : xall (fun _ a => a ∈ lw_tbl) 1 b s Gz_2526 := And.intro uz_633 uz_0
theorem uGz_2527 (b s : Nat) : xall (fun _ a => a ∈ lw_tbl) 1 b s Gz_2527 := And.intro uz_1657 uz_0
theorem uGz_2528 (b s : Nat) : xall (fun _ a => a ∈ lw_tbl) 2 b s Gz_2528 := And.intro (uGz_2526 b (2 * s)) (uGz_2527 (b + s) (2 * s))
theorem uGz_2529 (b s : Nat) : xall (fun _ a => a ∈ lw_tbl) 3 b s Gz_2529 := And.intro (uGz_2525 b (2 * s)) (uGz_2528 (b + s) (2 * s))
theorem uGz_2530 (b s : Nat) : xall (fun _ a => a ∈ lw_tbl) 1 b s Gz_2530 := And.intro uz_377 uz_0
theorem uGz_2531 (b s : Nat) : xall (fun _ a => a ∈ lw_tbl) 1 b s Gz_2531 := And.intro uz_1401 uz_0
theorem uGz_2532 (b s : Nat) : xall (fun _ a => a ∈ lw_tbl) 2 b s Gz_2532 := And.intro (uGz_2530 b (2 * s)) (uGz_2531 (b + s) (2 * s))
theorem uGz_2533 (b s : Nat) : xall (fun _ a => a ∈ lw_tbl) 1 b s Gz_2533 := And.intro uz_889 uz_0
theorem uGz_2534 (b s : Nat) : xall (fun _ a => a ∈ lw_tbl) 1 b s Gz_2534 := And.intro uz_1913 uz_0
theorem uGz_2535 (b s : Nat) : xall (fun _ a => a ∈ lw_tbl) 2 b s Gz_2535 := And.intro (uGz_2533 b (2 * s)) (uGz_2534 (b + s) (2 * s))
theorem uGz_2536 (b s : Nat) : xall (fun _ a => a ∈ lw_tbl) 3 b s Gz_2536 := And.intro (uGz_2532 b (2 * s)) (uGz_2535 (b + s) (2 * s))
theorem uGz_2537 (b s : Nat) : xall (fun _ a => a ∈ lw_tbl) 4 b s Gz_2537 := And.intro (uGz_2529 b (2 * s)) (uGz_2536 (b + s) (2 * s))
theorem uGz_2538 (b s : Nat) : xall (fun _ a => a ∈ lw_tbl) 1 b s Gz_2538 := And.intro uz_249 uz_0
theorem uGz_2539 (b s : Nat) : xall (fun _ a => a ∈ lw_tbl) 1 b s Gz_2539 := And.intro uz_1273 uz_0
theorem uGz_2540 (b s : Nat) : xall (fun _ a => a ∈ lw_tbl) 2 b s Gz_2540 := And.intro (uGz_2538 b (2 * s)) (uGz_2539 (b + s) (2 * s))
theorem uGz_2541 (b s : Nat) : xall (fun _ a => a ∈ lw_tbl) 1 b s Gz_2541 := And.intro uz_761 uz_0
theorem uGz_2542 (b s : Nat) : xall (fun _ a => a ∈ lw_tbl) 1 b s Gz_2542 := And.intro uz_1785 uz_0
theorem uGz_2543 (b s : Nat) : xall (fun _ a => a ∈ lw_tbl) 2 b s Gz_2543 := And.intro (uGz_2541 b (2 * s)) (uGz_2542 (b + s) (2 * s))
theorem uGz_2544 (b s : Nat) : xall (fun _ a => a ∈ lw_tbl) 3 b s Gz_2544 := And.intro (uGz_2540 b (2 * s)) (uGz_2543 (b + s) (2 * s))
theorem uGz_2545 (b s : Nat) : xall (fun _ a => a ∈ lw_tbl) 1 b s Gz_2545 := And.intro uz_505 uz_0
theorem uGz_2546 (b s : Nat) : xall (fun _ a => a ∈ lw_tbl) 1 b s Gz_2546 := And.intro uz_1529 uz_0
theorem uGz_2547 (b s : Nat) : xall (fun _ a => a ∈ lw_tbl) 2 b s Gz_2547 := And.intro (uGz_2545 b (2 * s)) (uGz_2546 (b + s) (2 * s))
theorem uGz_2548 (b s : Nat) : xall (fun _ a => a ∈ lw_tbl) 1 b s Gz_2548 := And.intro uz_1017 uz_0
theorem uGz_2549 (b s : Nat) : xall (fun _ a => a ∈ lw_tbl) 1 b s Gz_2549 := And.intro uz_2041 uz_0
theorem uGz_2550 (b s : Nat) : xall (fun _ a => a ∈ lw_tbl) 2 b s Gz_2550 := And.intro (uGz_2548 b (2 * s)) (uGz_2549 (b + s) (2 * s))
theorem uGz_2551 (b s : Nat) : xall (fun _ a => a ∈ lw_tbl) 3 b s Gz_2551 := And.intro (uGz_2547 b (2 * s)) (uGz_2550 (b + s) (2 * s))
theorem uGz_2552 (b s : Nat) : xall (fun _ a => a ∈ lw_tbl) 4 b s Gz_2552 := And.intro (uGz_2544 b (2 * s)) (uGz_2551 (b + s) (2 * s))
theorem uGz_2553 (b s : Nat) : xall (fun _ a => a ∈ lw_tbl) 5 b s Gz_2553 := And.intro (uGz_2537 b (2 * s)) (uGz_2552 (b + s) (2 * s))
theorem uGz_2554 (b s : Nat) : xall (fun _ a => a ∈ lw_tbl) 6 b s Gz_2554 := And.intro (uGz_2522 b (2 * s)) (uGz_2553 (b + s) (2 * s))
theorem uGz_2555 (b s : Nat) : xall (fun _ a => a ∈ lw_tbl) 7 b s Gz_2555 := And.intro (uGz_2491 b (2 * s)) (uGz_2554 (b + s) (2 * s))
theorem uGz_2556 (b s : Nat) : xall (fun _ a => a ∈ lw_tbl) 8 b s Gz_2556 := And.intro (uGz_2428 b (2 * s)) (uGz_2555 (b + s) (2 * s))
theorem uGz_2557 (b s : Nat) : xall (fun _ a => a ∈ lw_tbl) 9 b s Gz_2557 := And.intro (uGz_2301 b (2 * s)) (uGz_2556 (b + s) (2 * s))
theorem uGz_2558 (b s : Nat) : xall (fun _ a => a ∈ lw_tbl) 1 b s Gz_2558 := And.intro uz_5 uz_2053
theorem uGz_2559 (b s : Nat) : xall (fun _ a => a ∈ lw_tbl) 1 b s Gz_2559 := And.intro uz_1029 uz_0
theorem uGz_2560 (b s : Nat) : xall (fun _ a => a ∈ lw_tbl) 2 b s Gz_2560 := And.intro (uGz_2558 b (2 * s)) (uGz_2559 (b + s) (2 * s))
theorem uGz_2561 (b s : Nat) : xall (fun _ a => a ∈ lw_tbl) 1 b s Gz_2561 := And.intro uz_517 uz_0
theorem uGz_2562 (b s : Nat) : xall (fun _ a => a ∈ lw_tbl) 1 b s Gz_2562 := And.intro uz_1541 uz_0
theorem uGz_2563 (b s : Nat) : xall (fun _ a => a ∈ lw_tbl) 2 b s Gz_2563 := And.intro (uGz_2561 b (2 * s)) (uGz_2562 (b + s) (2 * s))
theorem uGz_2564 (b s : Nat) : xall (fun _ a => a ∈ lw_tbl) 3 b s Gz_2564 := And.intro (uGz_2560 b (2 * s)) (uGz_2563 (b + s) (2 * s))
theorem uGz_2565 (b s : Nat) : xall (fun _ a => a ∈ lw_tbl) 1 b s Gz_2565 := And.intro uz_261 uz_0
theorem uGz_2566 (b s : Nat) : xall (fun _ a => a ∈ lw_tbl) 1 b s Gz_2566 := And.intro uz_1285 uz_0
theorem uGz_2567 (b s : Nat) : xall (fun _ a => a ∈ lw_tbl) 2 b s Gz_2567 := And.intro (uGz_2565 b (2 * s)) (uGz_2566 (b + s) (2 * s))
theorem uGz_2568 (b s : Nat) : xall (fun _ a => a ∈ lw_tbl) 1 b s Gz_2568 := And.intro uz_773 uz_0
theorem uGz_2569 (b s : Nat) : xall (fun _ a => a ∈ lw_tbl) 1 b s Gz_2569 := And.intro uz_1797 uz_0
theorem uGz_2570 (b s : Nat) : xall (fun _ a => a ∈ lw_tbl) 2 b s Gz_2570 := And.intro (uGz_2568 b (2 * s)) (uGz_2569 (b + s) (2 * s))
theorem uGz_2571 (b s : Nat) : xall (fun _ a => a ∈ lw_tbl) 3 b s Gz_2571 := And.intro (uGz_2567 b (2 * s)) (uGz_2570 (b + s) (2 * s))
theorem uGz_2572 (b s : Nat) : xall (fun _ a => a ∈ lw_tbl) 4 b s Gz_2572 := And.intro (uGz_2564 b (2 * s)) (uGz_2571 (b + s) (2 * s))
theorem uGz_2573 (b s : Nat) : xall (fun _ a => a ∈ lw_tbl) 1 b s Gz_2573 := And.intro uz_133 uz_2181
theorem uGz_2574 (b s : Nat) : xall (fun _ a => a ∈ lw_tbl) 1 b s Gz_2574 := And.intro uz_1157 uz_0
theorem uGz_2575 (b s : Nat) : xall (fun _ a => a ∈ lw_tbl) 2 b s Gz_2575 := And.intro (uGz_2573 b (2 * s)) (uGz_2574 (b + s) (2 * s))
theorem uGz_2576 (b s : Nat) : xall (fun _ a => a ∈ lw_tbl) 1 b s Gz_2576 := And.intro uz_645 uz_0
theorem uGz_2577 (b s : Nat) : xall (fun _ a => a ∈ lw_tbl) 1 b s Gz_2577 := And.intro uz_1669 uz_0
theorem uGz_2578 (b s : Nat) : xall (fun _ a => a ∈ lw_tbl) 2 b s Gz_2578 := And.intro (uGz_2576 b (2 * s)) (uGz_2577 (b + s) (2 * s))
theorem uGz_2579 (b s : Nat) : xall (fun _ a => a ∈ lw_tbl) 3 b s Gz_2579 := And.intro (uGz_2575 b (2 * s)) (uGz_2578 (b + s) (2 * s))
theorem uGz_2580 (b s : Nat) : xall (fun _ a => a ∈ lw_tbl) 1 b s Gz_2580 := And.intro uz_389 uz_0
theorem uGz_2581 (b s : Nat) : xall (fun _ a => a ∈ lw_tbl) 1 b s Gz_2581 := And.intro uz_1413 uz_0
theorem uGz_2582 (b s : Nat) : xall (fun _ a => a ∈ lw_tbl) 2 b s Gz_2582 := And.intro (uGz_2580 b (2 * s)) (uGz_2581 (b + s) (2 * s))
theorem uGz_2583 (b s : Nat) : xall (fun _ a => a ∈ lw_tbl) 1 b s Gz_2583 := And.intro uz_901 uz_0
theorem uGz_2584 (b s : Nat) : xall (fun _ a => a ∈ lw_tbl) 1 b s Gz_2584 := And.intro uz_1925 uz_0
theorem uGz_2585 (b s : Nat) : xall (fun _ a => a ∈ lw_tbl) 2 b s Gz_2585 := And.intro (uGz_2583 b (2 * s)) (uGz_2584 (b + s) (2 * s))
theorem uGz_2586 (b s : Nat) : xall (fun _ a => a ∈ lw_tbl) 3 b s Gz_2586 := And.intro (uGz_2582 b (2 * s)) (uGz_2585 (b + s) (2 * s))
theorem uGz_2587 (b s : Nat) : xall (fun _ a => a ∈ lw_tbl) 4 b s Gz_2587 := And.intro (uGz_2579 b (2 * s)) (uGz_2586 (b + s) (2 * s))
theorem uGz_2588 (b s : Nat) : xall (fun _ a => a ∈ lw_tbl) 5 b s Gz_2588 := And.intro (uGz_2572 b (2 * s)) (uGz_2587 (b + s) (2 * s))
theorem uGz_2589 (b s : Nat) : xall (fun _ a => a ∈ lw_tbl) 1 b s Gz_2589 := And.intro uz_69 uz_2117
theorem uGz_2590 (b s : Nat) : xall (fun _ a => a ∈ lw_tbl) 1 b s Gz_2590 := And.intro uz_1093 uz_0
theorem uGz_2591 (b s : Nat) : xall (fun _ a => a ∈ lw_tbl) 2 b s Gz_2591 := And.intro (uGz_2589 b (2 * s)) (uGz_2590 (b + s) (2 * s))
theorem uGz_2592 (b s : Nat) : xall (fun _ a => a ∈ lw_tbl) 1 b s Gz_2592 := And.intro uz_581 uz_0
theorem uGz_2593 (b s : Nat) : xall (fun _ a => a ∈ lw_tbl) 1 b s Gz_2593 := And.intro uz_1605 uz_0
theorem uGz_2594 (b s : Nat) : xall (fun _ a => a ∈ lw_tbl) 2 b s Gz_2594 := And.intro (uGz_2592 b (2 * s)) (uGz_2593 (b + s) (2 * s))
theorem uGz_2595 (b s : Nat) : xall (fun _ a => a ∈ lw_tbl) 3 b s Gz_2595 := And.intro (uGz_2591 b (2 * s)) (uGz_2594 (b + s) (2 * s))
theorem uGz_2596 (b s : Nat) : xall (fun _ a => a ∈ lw_tbl) 1 b s Gz_2596 := And.intro uz_325 uz_0
theorem uGz_2597 (b s : Nat) : xall (fun _ a => a ∈ lw_tbl) 1 b s Gz_2597 := And.intro uz_1349 uz_0
theorem uGz_2598 (b s : Nat) : xall (fun _ a => a ∈ lw_tbl) 2 b s Gz_2598 := And.intro (uGz_2596 b (2 * s)) (uGz_2597 (b + s) (2 * s))
theorem uGz_2599 (b s : Nat) : xall (fun _ a => a ∈ lw_tbl) 1 b s Gz_2599 := And.intro uz_837 uz_0
theorem uGz_2600 (b s : Nat) : xall (fun _ a => a ∈ lw_tbl) 1 b s Gz_2600 := And.intro uz_1861 uz_0
theorem uGz_2601 (b s : Nat) : xall (fun _ a => a ∈ lw_tbl) 2 b s Gz_2601 := And.intro (uGz_2599 b (2 * s)) (uGz_2600 (b + s) (2 * s))
theorem uGz_2602 (b s : Nat) : xall (fun _ a => a ∈ lw_tbl) 3 b s Gz_2602 := And.intro (uGz_2598 b (2 * s)) (uGz_2601 (b + s) (2 * s))
theorem uGz_2603 (b s : Nat) : xall (fun _ a => a ∈ lw_tbl) 4 b s Gz_2603 := And.intro (uGz_2595 b (2 * s)) (uGz_2602 (b + s) (2 * s))
theorem uGz_2604 (b s : Nat) : xall (fun _ a => a ∈ lw_tbl) 1 b s Gz_2604 := And.intro uz_197 uz_2245
theorem uGz_2605 (b s : Nat) : xall (fun _ a => a ∈ lw_tbl) 1 b s Gz_2605 := And.intro uz_1221 uz_0
theorem uGz_2606 (b s : Nat) : xall (fun _ a => a ∈ lw_tbl) 2 b s Gz_2606 := And.intro (uGz_2604 b (2 * s)) (uGz_2605 (b + s) (2 * s))
theorem uGz_2607 (b s : Nat) : xall (fun _ a => a ∈ lw_tbl) 1 b s Gz_2607 := And.intro uz_709 uz_0
theorem uGz_2608 (b s : Nat) : xall (fun _ a => a ∈ lw_tbl) 1 b s Gz_2608 := And.intro uz_1733 uz_0
theorem uGz_2609 (b s : Nat) : xall (fun _ a => a ∈ lw_tbl) 2 b s Gz_2609 := And.intro (uGz_2607 b (2 * s)) (uGz_2608 (b + s) (2 * s))
theorem uGz_2610 (b s : Nat) : xall (fun _ a => a ∈ lw_tbl) 3 b s Gz_2610 := And.intro (uGz_2606 b (2 * s)) (uGz_2609 (b + s) (2 * s))
theorem uGz_2611 (b s : Nat) : xall (fun _ a => a ∈ lw_tbl) 1 b s Gz_2611 := And.intro uz_453 uz_0
theorem uGz_2612 (b s : Nat) : xall (fun _ a => a ∈ lw_tbl) 1 b s Gz_2612 := And.intro uz_1477 uz_0
theorem uGz_2613 (b s : Nat) : xall (fun _ a => a ∈ lw_tbl) 2 b s Gz_2613 := And.intro (uGz_2611 b (2 * s)) (uGz_2612 (b + s) (2 * s))
theorem uGz_2614 (b s : Nat) : xall (fun _ a => a ∈ lw_tbl) 1 b s Gz_2614 := And.intro uz_965 uz_0
theorem uGz_2615 (b s : Nat) : xall (fun _ a => a ∈ lw_tbl) 1 b s Gz_2615 := And.intro uz_1989 uz_0
theorem uGz_2616 (b s : Nat) : xall (fun _ a => a ∈ lw_tbl) 2 b s Gz_2616 := And.intro (uGz_2614 b (2 * s)) (uGz_2615 (b + s) (2 * s))
theorem uGz_2617 (b s : Nat) : xall (fun _ a => a ∈ lw_tbl) 3 b s Gz_2617 := And.intro (uGz_2613 b (2 * s)) (uGz_2616 (b + s) (2 * s))
theorem uGz_2618 (b s : Nat) : xall (fun _ a => a ∈ lw_tbl) 4 b s Gz_2618 := And.intro (uGz_2610 b (2 * s)) (uGz_2617 (b + s) (2 * s))
theorem uGz_2619 (b s : Nat) : xall (fun _ a => a ∈ lw_tbl) 5 b s Gz_2619 := And.intro (uGz_2603 b (2 * s)) (uGz_2618 (b + s) (2 * s))
theorem uGz_2620 (b s : Nat) : xall (fun _ a => a ∈ lw_tbl) 6 b s Gz_2620 := And.intro (uGz_2588 b (2 * s)) (uGz_2619 (b + s) (2 * s))
theorem uGz_2621 (b s : Nat) : xall (fun _ a => a ∈ lw_tbl) 1 b s Gz_2621 := And.intro uz_37 uz_2085
theorem uGz_2622 (b s : Nat) : xall (fun _ a => a ∈ lw_tbl) 1 b s Gz_2622 := And.intro uz_1061 uz_0
theorem uGz_2623 (b s : Nat) : xall (fun _ a => a ∈ lw_tbl) 2 b s Gz_2623 := And.intro (uGz_2621 b (2 * s)) (uGz_2622 (b + s) (2 * s))
theorem uGz_2624 (b s : Nat) : xall (fun _ a => a ∈ lw_tbl) 1 b s Gz_2624 := And.intro uz_549 uz_0
theorem uGz_2625 (b s : Nat) : xall (fun _ a => a ∈ lw_tbl) 1 b s Gz_2625 := And.intro uz_1573 uz_0
theorem uGz_2626 (b s : Nat) : xall (fun _ a => a ∈ lw_tbl) 2 b s Gz_2626 := And.intro (uGz_2624 b (2 * s)) (uGz_2625 (b + s) (2 * s))
theorem uGz_2627 (b s : Nat) : xall (fun _ a => a ∈ lw_tbl) 3 b s Gz_2627 := And.intro (uGz_2623 b (2 * s)) (uGz_2626 (b + s) (2 * s))
theorem uGz_2628 (b s : Nat) : xall (fun _ a => a ∈ lw_tbl) 1 b s Gz_2628 := And.intro uz_293 uz_0
theorem uGz_2629 (b s : Nat) : xall (fun _ a => a ∈ lw_tbl) 1 b s Gz_2629 := And.intro uz_1317 uz_0
theorem uGz_2630 (b s : Nat) : xall (fun _ a => a ∈ lw_tbl) 2 b s Gz_2630 := And.intro (uGz_2628 b (2 * s)) (uGz_2629 (b + s) (2 * s))
theorem uGz_2631 (b s : Nat) : xall (fun _ a => a ∈ lw_tbl) 1 b s Gz_2631 := And.intro uz_805 uz_0
theorem uGz_2632 (b s : Nat) : xall (fun _ a => a ∈ lw_tbl) 1 b s Gz_2632 := And.intro uz_1829 uz_0
theorem uGz_2633 (b s : Nat) : xall (fun _ a => a ∈ lw_tbl) 2 b s Gz_2633 := And.intro (uGz_2631 b (2 * s)) (uGz_2632 (b + s) (2 * s))
theorem uGz_2634 (b s : Nat) : xall (fun _ a => a ∈ lw_tbl) 3 b s Gz_2634 := And.intro (uGz_2630 b (2 * s)) (uGz_2633 (b + s) (2 * s))
theorem uGz_2635 (b s : Nat) : xall (fun _ a => a ∈ lw_tbl) 4 b s Gz_2635 := And.intro (uGz_2627 b (2 * s)) (uGz_2634 (b + s) (2 * s))
theorem uGz_2636 (b s : Nat) : xall (fun _ a => a ∈ lw_tbl) 1 b s Gz_2636 := And.intro uz_165 uz_2213
theorem uGz_2637 (b s : Nat) : xall (fun _ a => a ∈ lw_tbl) 1 b s Gz_2637 := And.intro uz_1189 uz_0
theorem uGz_2638 (b s : Nat) : xall (fun _ a => a ∈ lw_tbl) 2 b s Gz_2638 := And.intro (uGz_2636 b (2 * s)) (uGz_2637 (b + s) (2 * s))
theorem uGz_2639 (b s : Nat) : xall (fun _ a => a ∈ lw_tbl) 1 b s Gz_2639 := And.intro uz_677 uz_0
theorem uGz_2640 (b s : Nat) : xall (fun _ a => a ∈ lw_tbl) 1 b s Gz_2640 := And.intro uz_1701 uz_0
theorem uGz_2641 (b s : Nat) : xall (fun _ a => a ∈ lw_tbl) 2 b s Gz_2641 := And.intro (uGz_2639 b (2 * s)) (uGz_2640 (b + s) (2 * s))
theorem uGz_2642 (b s : Nat) : xall (fun _ a => a ∈ lw_tbl) 3 b s Gz_2642 := And.intro (uGz_2638 b (2 * s)) (uGz_2641 (b + s) (2 * s))
theorem uGz_2643 (b s : Nat) : xall (fun _ a => a ∈ lw_tbl) 1 b s Gz_2643 := And.intro uz_421 uz_0
theorem uGz_2644 (b s : Nat) : xall (fun _ a => a ∈ lw_tbl) 1 b s Gz_2644 := And.intro uz_1445 uz_0
theorem uGz_2645 (b s : Nat) : xall (fun _ a => a ∈ lw_tbl) 2 b s Gz_2645 := And.intro (uGz_2643 b (2 * s)) (uGz_2644 (b + s) (2 * s))
theorem uGz_2646 (b s : Nat) : xall (fun _ a => a ∈ lw_tbl) 1 b s Gz_2646 := And.intro uz_933 uz_0
theorem uGz_2647 (b s : Nat) : xall (fun _ a => a ∈ lw_tbl) 1 b s Gz_2647 := And.intro uz_1957 uz_0
theorem uGz_2648 (b s : Nat) : xall (fun _ a => a ∈ lw_tbl) 2 b s Gz_2648 := And.intro (uGz_2646 b (2 * s)) (uGz_2647 (b + s) (2 * s))
theorem uGz_2649 (b s : Nat) : xall (fun _ a => a ∈ lw_tbl) 3 b s Gz_2649 := And.intro (uGz_2645 b (2 * s)) (uGz_2648 (b + s) (2 * s))
theorem uGz_2650 (b s : Nat) : xall (fun _ a => a ∈ lw_tbl) 4 b s Gz_2650 := And.intro (uGz_2642 b (2 * s)) (uGz_2649 (b + s) (2 * s))
theorem uGz_2651 (b s : Nat) : xall (fun _ a => a ∈ lw_tbl) 5 b s Gz_2651 := And.intro (uGz_2635 b (2 * s)) (uGz_2650 (b + s) (2 * s))
theorem uGz_2652 (b s : Nat) : xall (fun _ a => a ∈ lw_tbl) 1 b s Gz_2652 := And.intro uz_101 uz_2149
theorem uGz_2653 (b s : Nat) : xall (fun _ a => a ∈ lw_tbl) 1 b s Gz_2653 := And.intro uz_1125 uz_0
theorem uGz_2654 (b s : Nat) : xall (fun _ a => a ∈ lw_tbl) 2 b s Gz_2654 := And.intro (uGz_2652 b (2 * s)) (uGz_2653 (b + s) (2 * s))
theorem uGz_2655 (b s : Nat) : xall (fun _ a => a ∈ lw_tbl) 1 b s Gz_2655 := And.intro uz_613 uz_0
theorem uGz_2656 (b s : Nat) : xall (fun _ a => a ∈ lw_tbl) 1 b s Gz_2656 := And.intro uz_1637 uz_0
theorem uGz_2657 (b s : Nat) : xall (fun _ a => a ∈ lw_tbl) 2 b s Gz_2657 := And.intro (uGz_2655 b (2 * s)) (uGz_2656 (b + s) (2 * s))
theorem uGz_2658 (b s : Nat) : xall (fun _ a => a ∈ lw_tbl) 3 b s Gz_2658 := And.intro (uGz_2654 b (2 * s)) (uGz_2657 (b + s) (2 * s))
theorem uGz_2659 (b s : Nat) : xall (fun _ a => a ∈ lw_tbl) 1 b s Gz_2659 := And.intro uz_357 uz_0
theorem uGz_2660 (b s : Nat) : xall (fun _ a => a ∈ lw_tbl) 1 b s Gz_2660 := And.intro uz_1381 uz_0
theorem uGz_2661 (b s : Nat) : xall (fun _ a => a ∈ lw_tbl) 2 b s Gz_2661 := And.intro (uGz_2659 b (2 * s)) (uGz_2660 (b + s) (2 * s))
theorem uGz_2662 (b s : Nat) : xall (fun _ a => a ∈ lw_tbl) 1 b s Gz_2662 := And.intro uz_869 uz_0
theorem uGz_2663 (b s : Nat) : xall (fun _ a => a ∈ lw_tbl) 1 b s Gz_2663 := And.intro uz_1893 uz_0
theorem uGz_2664 (b s : Nat) : xall (fun _ a => a ∈ lw_tbl) 2 b s Gz_2664 := And.intro (uGz_2662 b (2 * s)) (uGz_2663 (b + s) (2 * s))
theorem uGz_2665 (b s : Nat) : xall (fun _ a => a ∈ lw_tbl) 3 b s Gz_2665 := And.intro (uGz_2661 b (2 * s)) (uGz_2664 (b + s) (2 * s))
theorem uGz_2666 (b s : Nat) : xall (fun _ a => a ∈ lw_tbl) 4 b s Gz_2666 := And.intro (uGz_2658 b (2 * s)) (uGz_2665 (b + s) (2 * s))
theorem uGz_2667 (b s : Nat) : xall (fun _ a => a ∈ lw_tbl) 1 b s Gz_2667 := And.intro uz_229 uz_0
theorem uGz_2668 (b s : Nat) : xall (fun _ a => a ∈ lw_tbl) 1 b s Gz_2668 := And.intro uz_1253 uz_0
theorem uGz_2669 (b s : Nat) : xall (fun _ a => a ∈ lw_tbl) 2 b s Gz_2669 := And.intro (uGz_2667 b (2 * s)) (uGz_2668 (b + s) (2 * s))
theorem uGz_2670 (b s : Nat) : xall (fun _ a => a ∈ lw_tbl) 1 b s Gz_2670 := And.intro uz_741 uz_0
theorem uGz_2671 (b s : Nat) : xall (fun _ a => a ∈ lw_tbl) 1 b s Gz_2671 := And.intro uz_1765 uz_0
theorem uGz_2672 (b s : Nat) : xall (fun _ a => a ∈ lw_tbl) 2 b s Gz_2672 := And.intro (uGz_2670 b (2 * s)) (uGz_2671 (b + s) (2 * s))
theorem uGz_2673 (b s : Nat) : xall (fun _ a => a ∈ lw_tbl) 3 b s Gz_2673 := And.intro (uGz_2669 b (2 * s)) (uGz_2672 (b + s) (2 * s))
theorem uGz_2674 (b s : Nat) : xall (fun _ a => a ∈ lw_tbl) 1 b s Gz_2674 := And.intro uz_485 uz_0
theorem uGz_2675 (b s : Nat) : xall (fun _ a => a ∈ lw_tbl) 1 b s Gz_2675 := And.intro uz_1509 uz_0
theorem uGz_2676 (b s : Nat) : xall (fun _ a => a ∈ lw_tbl) 2 b s Gz_2676 := And.intro (uGz_2674 b (2 * s)) (uGz_2675 (b + s) (2 * s))
theorem uGz_2677 (b s : Nat) : xall (fun _ a => a ∈ lw_tbl) 1 b s Gz_2677 := And.intro uz_997 uz_0
theorem uGz_2678 (b s : Nat) : xall (fun _ a => a ∈ lw_tbl) 1 b s Gz_2678 := And.intro uz_2021 uz_0
theorem uGz_2679 (b s : Nat) : xall (fun _ a => a ∈ lw_tbl) 2 b s Gz_2679 := And.intro (uGz_2677 b (2 * s)) (uGz_2678 (b + s) (2 * s))
theorem uGz_2680 (b s : Nat) : xall (fun _ a => a ∈ lw_tbl) 3 b s Gz_2680 := And.intro (uGz_2676 b (2 * s)) (uGz_2679 (b + s) (2 * s))
theorem uGz_2681 (b s : Nat) : xall (fun _ a => a ∈ lw_tbl) 4 b s Gz_2681 := And.intro (uGz_2673 b (2 * s)) (uGz_2680 (b + s) (2 * s))
theorem uGz_2682 (b s : Nat) : xall (fun _ a => a ∈ lw_tbl) 5 b s Gz_2682 := And.intro (uGz_2666 b (2 * s)) (uGz_2681 (b + s) (2 * s))
theorem uGz_2683 (b s : Nat) : xall (fun _ a => a ∈ lw_tbl) 6 b s Gz_2683 := And.intro (uGz_2651 b (2 * s)) (uGz_2682 (b + s) (2 * s))
theorem uGz_2684 (b s : Nat) : xall (fun _ a => a ∈ lw_tbl) 7 b s Gz_2684 := And.intro (uGz_2620 b (2 * s)) (uGz_2683 (b + s) (2 * s))
theorem uGz_2685 (b s : Nat) : xall (fun _ a => a ∈ lw_tbl) 1 b s Gz_2685 := And.intro uz_21 uz_2069
theorem uGz_2686 (b s : Nat) : xall (fun _ a => a ∈ lw_tbl) 1 b s Gz_2686 := And.intro uz_1045 uz_0
theorem uGz_2687 (b s : Nat) : xall (fun _ a => a ∈ lw_tbl) 2 b s Gz_2687 := And.intro (uGz_2685 b (2 * s)) (uGz_2686 (b + s) (2 * s))
theorem uGz_2688 (b s : Nat) : xall (fun _ a => a ∈ lw_tbl) 1 b s Gz_2688 := And.intro uz_533 uz_0
theorem uGz_2689 (b s : Nat) : xall (fun _ a => a ∈ lw_tbl) 1 b s Gz_2689 := And.intro uz_1557 uz_0
theorem uGz_2690 (b s : Nat) : xall (fun _ a => a ∈ lw_tbl) 2 b s Gz_2690 := And.intro (uGz_2688 b (2 * s)) (uGz_2689 (b + s) (2 * s))
theorem uGz_2691 (b s : Nat) : xall (fun _ a => a ∈ lw_tbl) 3 b s Gz_2691 := And.intro (uGz_2687 b (2 * s)) (uGz_2690 (b + s) (2 * s))
theorem uGz_2692 (b s : Nat) : xall (fun _ a => a ∈ lw_tbl) 1 b s Gz_2692 := And.intro uz_277 uz_0
theorem uGz_2693 (b s : Nat) : xall (fun _ a => a ∈ lw_tbl) 1 b s Gz_2693 := And.intro uz_1301 uz_0
theorem uGz_2694 (b s : Nat) : xall (fun _ a => a ∈ lw_tbl) 2 b s Gz_2694 := And.intro (uGz_2692 b (2 * s)) (uGz_2693 (b + s) (2 * s))
theorem uGz_2695 (b s : Nat) : xall (fun _ a => a ∈ lw_tbl) 1 b s Gz_2695 := And.intro uz_789 uz_0
theorem uGz_2696 (b s : Nat) : xall (fun _ a => a ∈ lw_tbl) 1 b s Gz_2696 := And.intro uz_1813 uz_0
theorem uGz_2697 (b s : Nat) : xall (fun _ a => a ∈ lw_tbl) 2 b s Gz_2697 := And.intro (uGz_2695 b (2 * s)) (uGz_2696 (b + s) (2 * s))
theorem uGz_2698 (b s : Nat) : xall (fun _ a => a ∈ lw_tbl) 3 b s Gz_2698 := And.intro (uGz_2694 b (2 * s)) (uGz_2697 (b + s) (2 * s))
theorem uGz_2699 (b s : Nat) : xall (fun _ a => a ∈ lw_tbl) 4 b s Gz_2699 := And.intro (uGz_2691 b (2 * s)) (uGz_2698 (b + s) (2 * s))
theorem uGz_2700 (b s : Nat) : xall (fun _ a => a ∈ lw_tbl) 1 b s Gz_2700 := And.intro uz_149 uz_2197
theorem uGz_2701 (b s : Nat) : xall (fun _ a => a ∈ lw_tbl) 1 b s Gz_2701 := And.intro uz_1173 uz_0
theorem uGz_2702 (b s : Nat) : xall (fun _ a => a ∈ lw_tbl) 2 b s Gz_2702 := And.intro (uGz_2700 b (2 * s)) (uGz_2701 (b + s) (2 * s))
theorem uGz_2703 (b s : Nat) : xall (fun _ a => a ∈ lw_tbl) 1 b s Gz_2703 := And.intro uz_661 uz_0
theorem uGz_2704 (b s : Nat) : xall (fun _ a => a ∈ lw_tbl) 1 b s Gz_2704 := And.intro uz_1685 uz_0
theorem uGz_2705 (b s : Nat) : xall (fun _ a => a ∈ lw_tbl) 2 b s Gz_2705 := And.intro (uGz_2703 b (2 * s)) (uGz_2704 (b + s) (2 * s))
theorem uGz_2706 (b s : Nat) : xall (fun _ a => a ∈ lw_tbl) 3 b s Gz_2706 := And.intro (uGz_2702 b (2 * s)) (uGz_2705 (b + s) (2 * s))
theorem uGz_2707 (b s : Nat) : xall (fun _ a => a ∈ lw_tbl) 1 b s Gz_2707 := And.intro uz_405 uz_0
theorem uGz_2708 (b s : Nat) : xall (fun _ a => a ∈ lw_tbl) 1 b s Gz_2708 := And.intro uz_1429 uz_0
theorem uGz_2709 (b s : Nat) : xall (fun _ a => a ∈ lw_tbl) 2 b s Gz_2709 := And.intro (uGz_2707 b (2 * s)) (uGz_2708 (b + s) (2 * s))
theorem uGz_2710 (b s : Nat) : xall (fun _ a => a ∈ lw_tbl) 1 b s Gz_2710 := And.intro uz_917 uz_0
theorem uGz_2711 (b s : Nat) : xall (fun _ a => a ∈ lw_tbl) 1 b s Gz_2711 := And.intro uz_1941 uz_0
theorem uGz_2712 (b s : Nat) : xall (fun _ a => a ∈ lw_tbl) 2 b s Gz_2712 := And.intro (uGz_2710 b (2 * s)) (uGz_2711 (b + s) (2 * s))
theorem uGz_2713 (b s : Nat) : xall (fun _ a => a ∈ lw_tbl) 3 b s Gz_2713 := And.intro (uGz_2709 b (2 * s)) (uGz_2712 (b + s) (2 * s))
theorem uGz_2714 (b s : Nat) : xall (fun _ a => a ∈ lw_tbl) 4 b s Gz_2714 := And.intro (uGz_2706 b (2 * s)) (uGz_2713 (b + s) (2 * s))
theorem uGz_2715 (b s : Nat) : xall (fun _ a => a ∈ lw_tbl) 5 b s Gz_2715 := And.intro (uGz_2699 b (2 * s)) (uGz_2714 (b + s) (2 * s))
theorem uGz_2716 (b s : Nat) : xall (fun _ a => a ∈ lw_tbl) 1 b s Gz_2716 := And.intro uz_85 uz_2133
theorem uGz_2717 (b s : Nat) : xall (fun _ a => a ∈ lw_tbl) 1 b s Gz_2717 := And.intro uz_1109 uz_0
theorem uGz_2718 (b s : Nat) : xall (fun _ a => a ∈ lw_tbl) 2 b s Gz_2718 := And.intro (uGz_2716 b (2 * s)) (uGz_2717 (b + s) (2 * s))
theorem uGz_2719 (b s : Nat) : xall (fun _ a => a ∈ lw_tbl) 1 b s Gz_2719 := And.intro uz_597 uz_0
theorem uGz_2720 (b s : Nat) : xall (fun _ a => a ∈ lw_tbl) 1 b s Gz_2720 := And.intro uz_1621 uz_0
theorem uGz_2721 (b s : Nat) : xall (fun _ a => a ∈ lw_tbl) 2 b s Gz_2721 := And.intro (uGz_2719 b (2 * s)) (uGz_2720 (b + s) (2 * s))
theorem uGz_2722 (b s : Nat) : xall (fun _ a => a ∈ lw_tbl) 3 b s Gz_2722 := And.intro (uGz_2718 b (2 * s)) (uGz_2721 (b + s) (2 * s))
theorem uGz_2723 (b s : Nat) : xall (fun _ a => a ∈ lw_tbl) 1 b s Gz_2723 := And.intro uz_341 uz_0
theorem uGz_2724 (b s : Nat) : xall (fun _ a => a ∈ lw_tbl) 1 b s Gz_2724 := And.intro uz_1365 uz_0
theorem uGz_2725 (b s : Nat) : xall (fun _ a => a ∈ lw_tbl) 2 b s Gz_2725 := And.intro (uGz_2723 b (2 * s)) (uGz_2724 (b + s) (2 * s))
theorem uGz_2726 (b s : Nat) : xall (fun _ a => a ∈ lw_tbl) 1 b s Gz_2726 := And.intro uz_853 uz_0
theorem uGz_2727 (b s : Nat) : xall (fun _ a => a ∈ lw_tbl) 1 b s Gz_2727 := And.intro uz_1877 uz_0
theorem uGz_2728 (b s : Nat) : xall (fun _ a => a ∈ lw_tbl) 2 b s Gz_2728 := And.intro (uGz_2726 b (2 * s)) (uGz_2727 (b + s) (2 * s))
theorem uGz_2729 (b s : Nat) : xall (fun _ a => a ∈ lw_tbl) 3 b s Gz_2729 := And.intro (uGz_2725 b (2 * s)) (uGz_2728 (b + s) (2 * s))
theorem uGz_2730 (b s : Nat) : xall (fun _ a => a ∈ lw_tbl) 4 b s Gz_2730 := And.intro (uGz_2722 b (2 * s)) (uGz_2729 (b + s) (2 * s))
theorem uGz_2731 (b s : Nat) : xall (fun _ a => a ∈ lw_tbl) 1 b s Gz_2731 := And.intro uz_213 uz_2261
theorem uGz_2732 (b s : Nat) : xall (fun _ a => a ∈ lw_tbl) 1 b s Gz_2732 := And.intro uz_1237 uz_0
theorem uGz_2733 (b s : Nat) : xall (fun _ a => a ∈ lw_tbl) 2 b s Gz_2733 := And.intro (uGz_2731 b (2 * s)) (uGz_2732 (b + s) (2 * s))
theorem uGz_2734 (b s : Nat) : xall (fun _ a => a ∈ lw_tbl) 1 b s Gz_2734 := And.intro uz_725 uz_0
theorem uGz_2735 (b s : Nat) : xall (fun _ a => a ∈ lw_tbl) 1 b s Gz_2735 := And.intro uz_1749 uz_0
theorem uGz_2736 (b s : Nat) : xall (fun _ a => a ∈ lw_tbl) 2 b s Gz_2736 := And.intro (uGz_2734 b (2 * s)) (uGz_2735 (b + s) (2 * s))
theorem uGz_2737 (b s : Nat) : xall (fun _ a => a ∈ lw_tbl) 3 b s Gz_2737 := And.intro (uGz_2733 b (2 * s)) (uGz_2736 (b + s) (2 * s))
theorem uGz_2738 (b s : Nat) : xall (fun _ a => a ∈ lw_tbl) 1 b s Gz_2738 := And.intro uz_469 uz_0
theorem uGz_2739 (b s : Nat) : xall (fun _ a => a ∈ lw_tbl) 1 b s Gz_2739 := And.intro uz_1493 uz_0
theorem uGz_2740 (b s : Nat) : xall (fun _ a => a ∈ lw_tbl) 2 b s Gz_2740 := And.intro (uGz_2738 b (2 * s)) (uGz_2739 (b + s) (2 * s))
theorem uGz_2741 (b s : Nat) : xall (fun _ a => a ∈ lw_tbl) 1 b s Gz_2741 := And.intro uz_981 uz_0
theorem uGz_2742 (b s : Nat) : xall (fun _ a => a ∈ lw_tbl) 1 b s Gz_2742 := And.intro uz_2005 uz_0
theorem uGz_2743 (b s : Nat) : xall (fun _ a => a ∈ lw_tbl) 2 b s Gz_2743 := And.intro (uGz_2741 b (2 * s)) (uGz_2742 (b + s) (2 * s))
theorem uGz_2744 (b s : Nat) : xall (fun _ a => a ∈ lw_tbl) 3 b s Gz_2744 := And.intro (uGz_2740 b (2 * s)) (uGz_2743 (b + s) (2 * s))
theorem uGz_2745 (b s : Nat) : xall (fun _ a => a ∈ lw_tbl) 4 b s Gz_2745 := And.intro (uGz_2737 b (2 * s)) (uGz_2744 (b + s) (2 * s))
theorem uGz_2746 (b s : Nat) : xall (fun _ a => a ∈ lw_tbl) 5 b s Gz_2746 := And.intro (uGz_2730 b (2 * s)) (uGz_2745 (b + s) (2 * s))
theorem uGz_2747 (b s : Nat) : xall (fun _ a => a ∈ lw_tbl) 6 b s Gz_2747 := And.intro (uGz_2715 b (2 * s)) (uGz_2746 (b + s) (2 * s))
theorem uGz_2748 (b s : Nat) : xall (fun _ a => a ∈ lw_tbl) 1 b s Gz_2748 := And.intro uz_53 uz_2101
theorem uGz_2749 (b s : Nat) : xall (fun _ a => a ∈ lw_tbl) 1 b s Gz_2749 := And.intro uz_1077 uz_0
theorem uGz_2750 (b s : Nat) : xall (fun _ a => a ∈ lw_tbl) 2 b s Gz_2750 := And.intro (uGz_2748 b (2 * s)) (uGz_2749 (b + s) (2 * s))
theorem uGz_2751 (b s : Nat) : xall (fun _ a => a ∈ lw_tbl) 1 b s Gz_2751 := And.intro uz_565 uz_0
theorem uGz_2752 (b s : Nat) : xall (fun _ a => a ∈ lw_tbl) 1 b s Gz_2752 := And.intro uz_1589 uz_0
theorem uGz_2753 (b s : Nat) : xall (fun _ a => a ∈ lw_tbl) 2 b s Gz_2753 := And.intro (uGz_2751 b (2 * s)) (uGz_2752 (b + s) (2 * s))
theorem uGz_2754 (b s : Nat) : xall (fun _ a => a ∈ lw_tbl) 3 b s Gz_2754 := And.intro (uGz_2750 b (2 * s)) (uGz_2753 (b + s) (2 * s))
theorem uGz_2755 (b s : Nat) : xall (fun _ a => a ∈ lw_tbl) 1 b s Gz_2755 := And.intro uz_309 uz_0
theorem uGz_2756 (b s : Nat) : xall (fun _ a => a ∈ lw_tbl) 1 b s Gz_2756 := And.intro uz_1333 uz_0
theorem uGz_2757 (b s : Nat) : xall (fun _ a => a ∈ lw_tbl) 2 b s Gz_2757 := And.intro (uGz_2755 b (2 * s)) (uGz_2756 (b + s) (2 * s))
theorem uGz_2758 (b s : Nat) : xall (fun _ a => a ∈ lw_tbl) 1 b s Gz_2758 := And.intro uz_821 uz_0
theorem uGz_2759 (b s : Nat) : xall (fun _ a => a ∈ lw_tbl) 1 b s Gz_2759 := And.intro uz_1845 uz_0
theorem uGz_2760 (b s : Nat) : xall (fun _ a => a ∈ lw_tbl) 2 b s Gz_2760 := And.intro (uGz_2758 b (2 * s)) (uGz_2759 (b + s) (2 * s))
theorem uGz_2761 (b s : Nat) : xall (fun _ a => a ∈ lw_tbl) 3 b s Gz_2761 := And.intro (uGz_2757 b (2 * s)) (uGz_2760 (b + s) (2 * s))
theorem uGz_2762 (b s : Nat) : xall (fun _ a => a ∈ lw_tbl) 4 b s Gz_2762 := And.intro (uGz_2754 b (2 * s)) (uGz_2761 (b + s) (2 * s))
theorem uGz_2763 (b s : Nat) : xall (fun _ a => a ∈ lw_tbl) 1 b s Gz_2763 := And.intro uz_181 uz_2229
theorem uGz_2764 (b s : Nat) : xall (fun _ a => a ∈ lw_tbl) 1 b s Gz_2764 := And.intro uz_1205 uz_0
theorem uGz_2765 (b s : Nat) : xall (fun _ a => a ∈ lw_tbl) 2 b s Gz_2765 := And.intro (uGz_2763 b (2 * s)) (uGz_2764 (b + s) (2 * s))
theorem uGz_2766 (b s : Nat) : xall (fun _ a => a ∈ lw_tbl) 1 b s Gz_2766 := And.intro uz_693 uz_0
theorem uGz_2767 (b s : Nat) : xall (fun _ a => a ∈ lw_tbl) 1 b s Gz_2767 := And.intro uz_1717 uz_0
theorem uGz_2768 (b s : Nat) : xall (fun _ a => a ∈ lw_tbl) 2 b s Gz_2768 := And.intro (uGz_2766 b (2 * s)) (uGz_2767 (b + s) (2 * s))
theorem uGz_2769 (b s : Nat) : xall (fun _ a => a ∈ lw_tbl) 3 b s Gz_2769 := And.intro (uGz_2765 b (2 * s)) (uGz_2768 (b + s) (2 * s))
theorem uGz_2770 (b s : Nat) : xall (fun _ a => a ∈ lw_tbl) 1 b s Gz_2770 := And.intro uz_437 uz_0
theorem uGz_2771 (b s : Nat) : xall (fun _ a => a ∈ lw_tbl) 1 b s Gz_2771 := And.intro uz_1461 uz_0
theorem uGz_2772 (b s : Nat) : xall (fun _ a => a ∈ lw_tbl) 2 b s Gz_2772 := And.intro (uGz_2770 b (2 * s)) (uGz_2771 (b + s) (2 * s))
theorem uGz_2773 (b s : Nat) : xall (fun _ a => a ∈ lw_tbl) 1 b s Gz_2773 := And.intro uz_949 uz_0
theorem uGz_2774 (b s : Nat) : xall (fun _ a => a ∈ lw_tbl) 1 b s Gz_2774 := And.intro uz_1973 uz_0
theorem uGz_2775 (b s : Nat) : xall (fun _ a => a ∈ lw_tbl) 2 b s Gz_2775 := And.intro (uGz_2773 b (2 * s)) (uGz_2774 (b + s) (2 * s))
theorem uGz_2776 (b s : Nat) : xall (fun _ a => a ∈ lw_tbl) 3 b s Gz_2776 := And.intro (uGz_2772 b (2 * s)) (uGz_2775 (b + s) (2 * s))
theorem uGz_2777 (b s : Nat) : xall (fun _ a => a ∈ lw_tbl) 4 b s Gz_2777 := And.intro (uGz_2769 b (2 * s)) (uGz_2776 (b + s) (2 * s))
theorem uGz_2778 (b s : Nat) : xall (fun _ a => a ∈ lw_tbl) 5 b s Gz_2778 := And.intro (uGz_2762 b (2 * s)) (uGz_2777 (b + s) (2 * s))
theorem uGz_2779 (b s : Nat) : xall (fun _ a => a ∈ lw_tbl) 1 b s Gz_2779 := And.intro uz_117 uz_2165
theorem uGz_2780 (b s : Nat) : xall (fun _ a => a ∈ lw_tbl) 1 b s Gz_2780 := And.intro uz_1141 uz_0
theorem uGz_2781 (b s : Nat) : xall (fun _ a => a ∈ lw_tbl) 2 b s Gz_2781 := And.intro (uGz_2779 b (2 * s)) (uGz_2780 (b + s) (2 * s))
theorem uGz_2782 (b s : Nat) : xall (fun _ a => a ∈ lw_tbl) 1 b s Gz_2782 := And.intro uz_629 uz_0
theorem uGz_2783 (b s : Nat) : xall (fun _ a => a ∈ lw_tbl) 1 b s Gz_2783 := And.intro uz_1653 uz_0
theorem uGz_2784 (b s : Nat) : xall (fun _ a => a ∈ lw_tbl) 2 b s Gz_2784 := And.intro (uGz_2782 b (2 * s)) (uGz_2783 (b + s) (2 * s))
theorem uGz_2785 (b s : Nat) : xall (fun _ a => a ∈ lw_tbl) 3 b s Gz_2785 := And.intro (uGz_2781 b (2 * s)) (uGz_2784 (b + s) (2 * s))
theorem uGz_2786 (b s : Nat) : xall (fun _ a => a ∈ lw_tbl) 1 b s Gz_2786 := And.intro uz_373 uz_0
theorem uGz_2787 (b s : Nat) : xall (fun _ a => a ∈ lw_tbl) 1 b s Gz_2787 := And.intro uz_1397 uz_0
theorem uGz_2788 (b s : Nat) : xall (fun _ a => a ∈ lw_tbl) 2 b s Gz_2788 := And.intro (uGz_2786 b (2 * s)) (uGz_2787 (b + s) (2 * s))
theorem uGz_2789 (b s : Nat) : xall (fun _ a => a ∈ lw_tbl) 1 b s Gz_2789 := And.intro uz_885 uz_0
theorem uGz_2790 (b s : Nat) : xall (fun _ a => a ∈ lw_tbl) 1 b s Gz_2790 := And.intro uz_1909 uz_0
theorem uGz_2791 (b s : Nat) : xall (fun _ a => a ∈ lw_tbl) 2 b s Gz_2791 := And.intro (uGz_2789 b (2 * s)) (uGz_2790 (b + s) (2 * s))
theorem uGz_2792 (b s : Nat) : xall (fun _ a => a ∈ lw_tbl) 3 b s Gz_2792 := And.intro (uGz_2788 b (2 * s)) (uGz_2791 (b + s) (2 * s))
theorem uGz_2793 (b s : Nat) : xall (fun _ a => a ∈ lw_tbl) 4 b s Gz_2793 := And.intro (uGz_2785 b (2 * s)) (uGz_2792 (b + s) (2 * s))
theorem uGz_2794 (b s : Nat) : xall (fun _ a => a ∈ lw_tbl) 1 b s Gz_2794 := And.intro uz_245 uz_0
theorem uGz_2795 (b s : Nat) : xall (fun _ a => a ∈ lw_tbl) 1 b s Gz_2795 := And.intro uz_1269 uz_0
theorem uGz_2796 (b s : Nat) : xall (fun _ a => a ∈ lw_tbl) 2 b s Gz_2796 := And.intro (uGz_2794 b (2 * s)) (uGz_2795 (b + s) (2 * s))
theorem uGz_2797 (b s : Nat) : xall (fun _ a => a ∈ lw_tbl) 1 b s Gz_2797 := And.intro uz_757 uz_0
theorem uGz_2798 (b s : Nat) : xall (fun _ a => a ∈ lw_tbl) 1 b s Gz_2798 := And.intro uz_1781 uz_0
theorem uGz_2799 (b s : Nat) : xall (fun _ a => a ∈ lw_tbl) 2 b s Gz_2799 := And.intro (uGz_2797 b (2 * s)) (uGz_2798 (b + s) (2 * s))
theorem uGz_2800 (b s : Nat) : xall (fun _ a => a ∈ lw_tbl) 3 b s Gz_2800 := And.intro (uGz_2796 b (2 * s)) (uGz_2799 (b + s) (2 * s))
theorem uGz_2801 (b s : Nat) : xall (fun _ a => a ∈ lw_tbl) 1 b s Gz_2801 := And.intro uz_501 uz_0
theorem uGz_2802 (b s : Nat) : xall (fun _ a => a ∈ lw_tbl) 1 b s Gz_2802 := And.intro uz_1525 uz_0
theorem uGz_2803 (b s : Nat) : xall (fun _ a => a ∈ lw_tbl) 2 b s Gz_2803 := And.intro (uGz_2801 b (2 * s)) (uGz_2802 (b + s) (2 * s))
theorem uGz_2804 (b s : Nat) : xall (fun _ a => a ∈ lw_tbl) 1 b s Gz_2804 := And.intro uz_1013 uz_0
theorem uGz_2805 (b s : Nat) : xall (fun _ a => a ∈ lw_tbl) 1 b s Gz_2805 := And.intro uz_2037 uz_0
theorem uGz_2806 (b s : Nat) : xall (fun _ a => a ∈ lw_tbl) 2 b s Gz_2806 := And.intro (uGz_2804 b (2 * s)) (uGz_2805 (b + s) (2 * s))
theorem uGz_2807 (b s : Nat) : xall (fun _ a => a ∈ lw_tbl) 3 b s Gz_2807 := And.intro (uGz_2803 b (2 * s)) (uGz_2806 (b + s) (2 * s))
theorem uGz_2808 (b s : Nat) : xall (fun _ a => a ∈ lw_tbl) 4 b s Gz_2808 := And.intro (uGz_2800 b (2 * s)) (uGz_2807 (b + s) (2 * s))
theorem uGz_2809 (b s : Nat) : xall (fun _ a => a ∈ lw_tbl) 5 b s Gz_2809 := And.intro (uGz_2793 b (2 * s)) (uGz_2808 (b + s) (2 * s))
theorem uGz_2810 (b s : Nat) : xall (fun _ a => a ∈ lw_tbl) 6 b s Gz_2810 := And.intro (uGz_2778 b (2 * s)) (uGz_2809 (b + s) (2 * s))
theorem uGz_2811 (b s : Nat) : xall (fun _ a => a ∈ lw_tbl) 7 b s Gz_2811 := And.intro (uGz_2747 b (2 * s)) (uGz_2810 (b + s) (2 * s))
theorem uGz_2812 (b s : Nat) : xall (fun _ a => a ∈ lw_tbl) 8 b s Gz_2812 := And.intro (uGz_2684 b (2 * s)) (uGz_2811 (b + s) (2 * s))
theorem uGz_2813 (b s : Nat) : xall (fun _ a => a ∈ lw_tbl) 1 b s Gz_2813 := And.intro uz_13 uz_2061
theorem uGz_2814 (b s : Nat) : xall (fun _ a => a ∈ lw_tbl) 1 b s Gz_2814 := And.intro uz_1037 uz_0
theorem uGz_2815 (b s : Nat) : xall (fun _ a => a ∈ lw_tbl) 2 b s Gz_2815 := And.intro (uGz_2813 b (2 * s)) (uGz_2814 (b + s) (2 * s))
theorem uGz_2816 (b s : Nat) : xall (fun _ a => a ∈ lw_tbl) 1 b s Gz_2816 := And.intro uz_525 uz_0
theorem uGz_2817 (b s : Nat) : xall (fun _ a => a ∈ lw_tbl) 1 b s Gz_2817 := And.intro uz_1549 uz_0
theorem uGz_2818 (b s : Nat) : xall (fun _ a => a ∈ lw_tbl) 2 b s Gz_2818 := And.intro (uGz_2816 b (2 * s)) (uGz_2817 (b + s) (2 * s))
theorem uGz_2819 (b s : Nat) : xall (fun _ a => a ∈ lw_tbl) 3 b s Gz_2819 := And.intro (uGz_2815 b (2 * s)) (uGz_2818 (b + s) (2 * s))
theorem uGz_2820 (b s : Nat) : xall (fun _ a => a ∈ lw_tbl) 1 b s Gz_2820 := And.intro uz_269 uz_0
theorem uGz_2821 (b s : Nat) : xall (fun _ a => a ∈ lw_tbl) 1 b s Gz_2821 := And.intro uz_1293 uz_0
theorem uGz_2822 (b s : Nat) : xall (fun _ a => a ∈ lw_tbl) 2 b s Gz_2822 := And.intro (uGz_2820 b (2 * s)) (uGz_2821 (b + s) (2 * s))
theorem uGz_2823 (b s : Nat) : xall (fun _ a => a ∈ lw_tbl) 1 b s Gz_2823 := And.intro uz_781 uz_0
theorem uGz_2824 (b s : Nat) : xall (fun _ a => a ∈ lw_tbl) 1 b s Gz_2824 := And.intro uz_1805 uz_0
theorem uGz_2825 (b s : Nat) : xall (fun _ a => a ∈ lw_tbl) 2 b s Gz_2825 := And.intro (uGz_2823 b (2 * s)) (uGz_2824 (b + s) (2 * s))
theorem uGz_2826 (b s : Nat) : xall (fun _ a => a ∈ lw_tbl) 3 b s Gz_2826 := And.intro (uGz_2822 b (2 * s)) (uGz_2825 (b + s) (2 * s))
theorem uGz_2827 (b s : Nat) : xall (fun _ a => a ∈ lw_tbl) 4 b s Gz_2827 := And.intro (uGz_2819 b (2 * s)) (uGz_2826 (b + s) (2 * s))
theorem uGz_2828 (b s : Nat) : xall (fun _ a => a ∈ lw_tbl) 1 b s Gz_2828 := And.intro uz_141 uz_2189
theorem uGz_2829 (b s : Nat) : xall (fun _ a => a ∈ lw_tbl) 1 b s Gz_2829 := And.intro uz_1165 uz_0
theorem uGz_2830 (b s : Nat) : xall (fun _ a => a ∈ lw_tbl) 2 b s Gz_2830 := And.intro (uGz_2828 b (2 * s)) (uGz_2829 (b + s) (2 * s))
theorem uGz_2831 (b s : Nat) : xall (fun _ a => a ∈ lw_tbl) 1 b s Gz_2831 := And.intro uz_653 uz_0
theorem uGz_2832 (b s : Nat) : xall (fun _ a => a ∈ lw_tbl) 1 b s Gz_2832 := And.intro uz_1677 uz_0
theorem uGz_2833 (b s : Nat) : xall (fun _ a => a ∈ lw_tbl) 2 b s Gz_2833 := And.intro (uGz_2831 b (2 * s)) (uGz_2832 (b + s) (2 * s))
theorem uGz_2834 (b s : Nat) : xall (fun _ a => a ∈ lw_tbl) 3 b s Gz_2834 := And.intro (uGz_2830 b (2 * s)) (uGz_2833 (b + s) (2 * s))
theorem uGz_2835 (b s : Nat) : xall (fun _ a => a ∈ lw_tbl) 1 b s Gz_2835 := And.intro uz_397 uz_0
theorem uGz_2836 (b s : Nat) : xall (fun _ a => a ∈ lw_tbl) 1 b s Gz_2836 := And.intro uz_1421 uz_0
theorem uGz_2837 (b s : Nat) : xall (fun _ a => a ∈ lw_tbl) 2 b s Gz_2837 := And.intro (uGz_2835 b (2 * s)) (uGz_2836 (b + s) (2 * s))
theorem uGz_2838 (b s : Nat) : xall (fun _ a => a ∈ lw_tbl) 1 b s Gz_2838 := And.intro uz_909 uz_0
theorem uGz_2839 (b s : Nat) : xall (fun _ a => a ∈ lw_tbl) 1 b s Gz_2839 := And.intro uz_1933 uz_0
theorem uGz_2840 (b s : Nat) : xall (fun _ a => a ∈ lw_tbl) 2 b s Gz_2840 := And.intro (uGz_2838 b (2 * s)) (uGz_2839 (b + s) (2 * s))
theorem uGz_2841 (b s : Nat) : xall (fun _ a => a ∈ lw_tbl) 3 b s Gz_2841 := And.intro (uGz_2837 b (2 * s)) (uGz_2840 (b + s) (2 * s))
theorem uGz_2842 (b s : Nat) : xall (fun _ a => a ∈ lw_tbl) 4 b s Gz_2842 := And.intro (uGz_2834 b (2 * s)) (uGz_2841 (b + s) (2 * s))
theorem uGz_2843 (b s : Nat) : xall (fun _ a => a ∈ lw_tbl) 5 b s Gz_2843 := And.intro (uGz_2827 b (2 * s)) (uGz_2842 (b + s) (2 * s))
theorem uGz_2844 (b s : Nat) : xall (fun _ a => a ∈ lw_tbl) 1 b s Gz_2844 := And.intro uz_77 uz_2125
theorem uGz_2845 (b s : Nat) : xall (fun _ a => a ∈ lw_tbl) 1 b s Gz_2845 := And.intro uz_1101 uz_0
theorem uGz_2846 (b s : Nat) : xall (fun _ a => a ∈ lw_tbl) 2 b s Gz_2846 := And.intro (uGz_2844 b (2 * s)) (uGz_2845 (b + s) (2 * s))
theorem uGz_2847 (b s : Nat) : xall (fun _ a => a ∈ lw_tbl) 1 b s Gz_2847 := And.intro uz_589 uz_0
theorem uGz_2848 (b s : Nat) : xall (fun _ a => a ∈ lw_tbl) 1 b s Gz_2848 := And.intro uz_1613 uz_0
theorem uGz_2849 (b s : Nat) : xall (fun _ a => a ∈ lw_tbl) 2 b s Gz_2849 := And.intro (uGz_2847 b (2 * s)) (uGz_2848 (b + s) (2 * s))
theorem uGz_2850 (b s : Nat) : xall (fun _ a => a ∈ lw_tbl) 3 b s Gz_2850 := And.intro (uGz_2846 b (2 * s)) (uGz_2849 (b + s) (2 * s))
theorem uGz_2851 (b s : Nat) : xall (fun _ a => a ∈ lw_tbl) 1 b s Gz_2851 := And.intro uz_333 uz_0
theorem uGz_2852 (b s : Nat) : xall (fun _ a => a ∈ lw_tbl) 1 b s Gz_2852 := And.intro uz_1357 uz_0
theorem uGz_2853 (b s : Nat) : xall (fun _ a => a ∈ lw_tbl) 2 b s Gz_2853 := And.intro (uGz_2851 b (2 * s)) (uGz_2852 (b + s) (2 * s))
theorem uGz_2854 (b s : Nat) : xall (fun _ a => a ∈ lw_tbl) 1 b s Gz_2854 := And.intro uz_845 uz_0
theorem uGz_2855 (b s : Nat) : xall (fun _ a => a ∈ lw_tbl) 1 b s Gz_2855 := And.intro uz_1869 uz_0
theorem uGz_2856 (b s : Nat) : xall (fun _ a => a ∈ lw_tbl) 2 b s Gz_2856 := And.intro (uGz_2854 b (2 * s)) (uGz_2855 (b + s) (2 * s))
theorem uGz_2857 (b s : Nat) : xall (fun _ a => a ∈ lw_tbl) 3 b s Gz_2857 := And.intro (uGz_2853 b (2 * s)) (uGz_2856 (b + s) (2 * s))
theorem uGz_2858 (b s : Nat) : xall (fun _ a => a ∈ lw_tbl) 4 b s Gz_2858 := And.intro (uGz_2850 b (2 * s)) (uGz_2857 (b + s) (2 * s))
theorem uGz_2859 (b s : Nat) : xall (fun _ a => a ∈ lw_tbl) 1 b s Gz_2859 := And.intro uz_205 uz_2253
theorem uGz_2860 (b s : Nat) : xall (fun _ a => a ∈ lw_tbl) 1 b s Gz_2860 := And.intro uz_1229 uz_0
theorem uGz_2861 (b s : Nat) : xall (fun _ a => a ∈ lw_tbl) 2 b s Gz_2861 := And.intro (uGz_2859 b (2 * s)) (uGz_2860 (b + s) (2 * s))
theorem uGz_2862 (b s : Nat) : xall (fun _ a => a ∈ lw_tbl) 1 b s Gz_2862 := And.intro uz_717 uz_0
theorem uGz_2863 (b s : Nat) : xall (fun _ a => a ∈ lw_tbl) 1 b s Gz_2863 := And.intro uz_1741 uz_0
theorem uGz_2864 (b s : Nat) : xall (fun _ a => a ∈ lw_tbl) 2 b s Gz_2864 := And.intro (uGz_2862 b (2 * s)) (uGz_2863 (b + s) (2 * s))
theorem uGz_2865 (b s : Nat) : xall (fun _ a => a ∈ lw_tbl) 3 b s Gz_2865 := And.intro (uGz_2861 b (2 * s)) (uGz_2864 (b + s) (2 * s))
theorem uGz_2866 (b s : Nat) : xall (fun _ a => a ∈ lw_tbl) 1 b s Gz_2866 := And.intro uz_461 uz_0
theorem uGz_2867 (b s : Nat) : xall (fun _ a => a ∈ lw_tbl) 1 b s Gz_2867 := And.intro uz_1485 uz_0
theorem uGz_2868 (b s : Nat) : xall (fun _ a => a ∈ lw_tbl) 2 b s Gz_2868 := And.intro (uGz_2866 b (2 * s)) (uGz_2867 (b + s) (2 * s))
theorem uGz_2869 (b s : Nat) : xall (fun _ a => a ∈ lw_tbl) 1 b s Gz_2869 := And.intro uz_973 uz_0
theorem uGz_2870 (b s : Nat) : xall (fun _ a => a ∈ lw_tbl) 1 b s Gz_2870 := And.intro uz_1997 uz_0
theorem uGz_2871 (b s : Nat) : xall (fun _ a => a ∈ lw_tbl) 2 b s Gz_2871 := And.intro (uGz_2869 b (2 * s)) (uGz_2870 (b + s) (2 * s))
theorem uGz_2872 (b s : Nat) : xall (fun _ a => a ∈ lw_tbl) 3 b s Gz_2872 := And.intro (uGz_2868 b (2 * s)) (uGz_2871 (b + s) (2 * s))
theorem uGz_2873 (b s : Nat) : xall (fun _ a => a ∈ lw_tbl) 4 b s Gz_2873 := And.intro (uGz_2865 b (2 * s)) (uGz_2872 (b + s) (2 * s))
theorem uGz_2874 (b s : Nat) : xall (fun _ a => a ∈ lw_tbl) 5 b s Gz_2874 := And.intro (uGz_2858 b (2 * s)) (uGz_2873 (b + s) (2 * s))
theorem uGz_2875 (b s : Nat) : xall (fun _ a => a ∈ lw_tbl) 6 b s Gz_2875 := And.intro (uGz_2843 b (2 * s)) (uGz_2874 (b + s) (2 * s))
theorem uGz_2876 (b s : Nat) : xall (fun _ a => a ∈ lw_tbl) 1 b s Gz_2876 := And.intro uz_45 uz_2093
theorem uGz_2877 (b s : Nat) : xall (fun _ a => a ∈ lw_tbl) 1 b s Gz_2877 := And.intro uz_1069 uz_0
theorem uGz_2878 (b s : Nat) : xall (fun _ a => a ∈ lw_tbl) 2 b s Gz_2878 := And.intro (uGz_2876 b (2 * s)) (uGz_2877 (b + s) (2 * s))
theorem uGz_2879 (b s : Nat) : xall (fun _ a => a ∈ lw_tbl) 1 b s Gz_2879 := And.intro uz_557 uz_0
theorem uGz_2880 (b s : Nat) : xall (fun _ a => a ∈ lw_tbl) 1 b s Gz_2880 := And.intro uz_1581 uz_0
theorem uGz_2881 (b s : Nat) : xall (fun _ a => a ∈ lw_tbl) 2 b s Gz_2881 := And.intro (uGz_2879 b (2 * s)) (uGz_2880 (b + s) (2 * s))
theorem uGz_2882 (b s : Nat) : xall (fun _ a => a ∈ lw_tbl) 3 b s Gz_2882 := And.intro (uGz_2878 b (2 * s)) (uGz_2881 (b + s) (2 * s))
theorem uGz_2883 (b s : Nat) : xall (fun _ a => a ∈ lw_tbl) 1 b s Gz_2883 := And.intro uz_301 uz_0
theorem uGz_2884 (b s : Nat) : xall (fun _ a => a ∈ lw_tbl) 1 b s Gz_2884 := And.intro uz_1325 uz_0
theorem uGz_2885 (b s : Nat) : xall (fun _ a => a ∈ lw_tbl) 2 b s Gz_2885 := And.intro (uGz_2883 b (2 * s)) (uGz_2884 (b + s) (2 * s))
theorem uGz_2886 (b s : Nat) : xall (fun _ a => a ∈ lw_tbl) 1 b s Gz_2886 := And.intro uz_813 uz_0
theorem uGz_2887 (b s : Nat) : xall (fun _ a => a ∈ lw_tbl) 1 b s Gz_2887 := And.intro uz_1837 uz_0
theorem uGz_2888 (b s : Nat) : xall (fun _ a => a ∈ lw_tbl) 2 b s Gz_2888 := And.intro (uGz_2886 b (2 * s)) (uGz_2887 (b + s) (2 * s))
theorem uGz_2889 (b s : Nat) : xall (fun _ a => a ∈ lw_tbl) 3 b s Gz_2889 := And.intro (uGz_2885 b (2 * s)) (uGz_2888 (b + s) (2 * s))
theorem uGz_2890 (b s : Nat) : xall (fun _ a => a ∈ lw_tbl) 4 b s Gz_2890 := And.intro (uGz_2882 b (2 * s)) (uGz_2889 (b + s) (2 * s))
theorem uGz_2891 (b s : Nat) : xall (fun _ a => a ∈ lw_tbl) 1 b s Gz_2891 := And.intro uz_173 uz_2221
theorem uGz_2892 (b s : Nat) : xall (fun _ a => a ∈ lw_tbl) 1 b s Gz_2892 := And.intro uz_1197 uz_0
theorem uGz_2893 (b s : Nat) : xall (fun _ a => a ∈ lw_tbl) 2 b s Gz_2893 := And.intro (uGz_2891 b (2 * s)) (uGz_2892 (b + s) (2 * s))
theorem uGz_2894 (b s : Nat) : xall (fun _ a => a ∈ lw_tbl) 1 b s Gz_2894 := And.intro uz_685 uz_0
theorem uGz_2895 (b s : Nat) : xall (fun _ a => a ∈ lw_tbl) 1 b s Gz_2895 := And.intro uz_1709 uz_0
theorem uGz_2896 (b s : Nat) : xall (fun _ a => a ∈ lw_tbl) 2 b s Gz_2896 := And.intro (uGz_2894 b (2 * s)) (uGz_2895 (b + s) (2 * s))
theorem uGz_2897 (b s : Nat) : xall (fun _ a => a ∈ lw_tbl) 3 b s Gz_2897 := And.intro (uGz_2893 b (2 * s)) (uGz_2896 (b + s) (2 * s))
theorem uGz_2898 (b s : Nat) : xall (fun _ a => a ∈ lw_tbl) 1 b s Gz_2898 := And.intro uz_429 uz_0
theorem uGz_2899 (b s : Nat) : xall (fun _ a => a ∈ lw_tbl) 1 b s Gz_2899 := And.intro uz_1453 uz_0
theorem uGz_2900 (b s : Nat) : xall (fun _ a => a ∈ lw_tbl) 2 b s Gz_2900 := And.intro (uGz_2898 b (2 * s)) (uGz_2899 (b + s) (2 * s))
theorem uGz_2901 (b s : Nat) : xall (fun _ a => a ∈ lw_tbl) 1 b s Gz_2901 := And.intro uz_941 uz_0
theorem uGz_2902 (b s : Nat) : xall (fun _ a => a ∈ lw_tbl) 1 b s Gz_2902 := And.intro uz_1965 uz_0
theorem uGz_2903 (b s : Nat) : xall (fun _ a => a ∈ lw_tbl) 2 b s Gz_2903 := And.intro (uGz_2901 b (2 * s)) (uGz_2902 (b + s) (2 * s))
theorem uGz_2904 (b s : Nat) : xall (fun _ a => a ∈ lw_tbl) 3 b s Gz_2904 := And.intro (uGz_2900 b (2 * s)) (uGz_2903 (b + s) (2 * s))
theorem uGz_2905 (b s : Nat) : xall (fun _ a => a ∈ lw_tbl) 4 b s Gz_2905 := And.intro (uGz_2897 b (2 * s)) (uGz_2904 (b + s) (2 * s))
theorem uGz_2906 (b s : Nat) : xall (fun _ a => a ∈ lw_tbl) 5 b s Gz_2906 := And.intro (uGz_2890 b (2 * s)) (uGz_2905 (b + s) (2 * s))
theorem uGz_2907 (b s : Nat) : xall (fun _ a => a ∈ lw_tbl) 1 b s Gz_2907 := And.intro uz_109 uz_2157
theorem uGz_2908 (b s : Nat) : xall (fun _ a => a ∈ lw_tbl) 1 b s Gz_2908 := And.intro uz_1133 uz_0
theorem uGz_2909 (b s : Nat) : xall (fun _ a => a ∈ lw_tbl) 2 b s Gz_2909 := And.intro (uGz_2907 b (2 * s)) (uGz_2908 (b + s) (2 * s))
theorem uGz_2910 (b s : Nat) : xall (fun _ a => a ∈ lw_tbl) 1 b s Gz_2910 := And.intro uz_621 uz_0
theorem uGz_2911 (b s : Nat) : xall (fun _ a => a ∈ lw_tbl) 1 b s Gz_2911 := And.intro uz_1645 uz_0
theorem uGz_2912 (b s : Nat) : xall (fun _ a => a ∈ lw_tbl) 2 b s Gz_2912 := And.intro (uGz_2910 b (2 * s)) (uGz_2911 (b + s) (2 * s))
theorem uGz_2913 (b s : Nat) : xall (fun _ a => a ∈ lw_tbl) 3 b s Gz_2913 := And.intro (uGz_2909 b (2 * s)) (uGz_2912 (b + s) (2 * s))
theorem uGz_2914 (b s : Nat) : xall (fun _ a => a ∈ lw_tbl) 1 b s Gz_2914 := And.intro uz_365 uz_0
theorem uGz_2915 (b s : Nat) : xall (fun _ a => a ∈ lw_tbl) 1 b s Gz_2915 := And.intro uz_1389 uz_0
theorem uGz_2916 (b s : Nat) : xall (fun _ a => a ∈ lw_tbl) 2 b s Gz_2916 := And.intro (uGz_2914 b (2 * s)) (uGz_2915 (b + s) (2 * s))
theorem uGz_2917 (b s : Nat) : xall (fun _ a => a ∈ lw_tbl) 1 b s Gz_2917 := And.intro uz_877 uz_0
theorem uGz_2918 (b s : Nat) : xall (fun _ a => a ∈ lw_tbl) 1 b s Gz_2918 := And.intro uz_1901 uz_0
theorem uGz_2919 (b s : Nat) : xall (fun _ a => a ∈ lw_tbl) 2 b s Gz_2919 := And.intro (uGz_2917 b (2 * s)) (uGz_2918 (b + s) (2 * s))
theorem uGz_2920 (b s : Nat) : xall (fun _ a => a ∈ lw_tbl) 3 b s Gz_2920 := And.intro (uGz_2916 b (2 * s)) (uGz_2919 (b + s) (2 * s))
theorem uGz_2921 (b s : Nat) : xall (fun _ a => a ∈ lw_tbl) 4 b s Gz_2921 := And.intro (uGz_2913 b (2 * s)) (uGz_2920 (b + s) (2 * s))
theorem uGz_2922 (b s : Nat) : xall (fun _ a => a ∈ lw_tbl) 1 b s Gz_2922 := And.intro uz_237 uz_0
theorem uGz_2923 (b s : Nat) : xall (fun _ a => a ∈ lw_tbl) 1 b s Gz_2923 := And.intro uz_1261 uz_0
theorem uGz_2924 (b s : Nat) : xall (fun _ a => a ∈ lw_tbl) 2 b s Gz_2924 := And.intro (uGz_2922 b (2 * s)) (uGz_2923 (b + s) (2 * s))
theorem uGz_2925 (b s : Nat) : xall (fun _ a => a ∈ lw_tbl) 1 b s Gz_2925 := And.intro uz_749 uz_0
theorem uGz_2926 (b s : Nat) : xall (fun _ a => a ∈ lw_tbl) 1 b s Gz_2926 := And.intro uz_1773 uz_0
theorem uGz_2927 (b s : Nat) : xall (fun _ a => a ∈ lw_tbl) 2 b s Gz_2927 := And.intro (uGz_2925 b (2 * s)) (uGz_2926 (b + s) (2 * s))
theorem uGz_2928 (b s : Nat) : xall (fun _ a => a ∈ lw_tbl) 3 b s Gz_2928 := And.intro (uGz_2924 b (2 * s)) (uGz_2927 (b + s) (2 * s))
theorem uGz_2929 (b s : Nat) : xall (fun _ a => a ∈ lw_tbl) 1 b s Gz_2929 := And.intro uz_493 uz_0
theorem uGz_2930 (b s : Nat) : xall (fun _ a => a ∈ lw_tbl) 1 b s Gz_2930 := And.intro uz_1517 uz_0
theorem uGz_2931 (b s : Nat) : xall (fun _ a => a ∈ lw_tbl) 2 b s Gz_2931 := And.intro (uGz_2929 b (2 * s)) (uGz_2930 (b + s) (2 * s))
theorem uGz_2932 (b s : Nat) : xall (fun _ a => a ∈ lw_tbl) 1 b s Gz_2932 := And.intro uz_1005 uz_0
theorem uGz_2933 (b s : Nat) : xall (fun _ a => a ∈ lw_tbl) 1 b s Gz_2933 := And.intro uz_2029 uz_0
theorem uGz_2934 (b s : Nat) : xall (fun _ a => a ∈ lw_tbl) 2 b s Gz_2934 := And.intro (uGz_2932 b (2 * s)) (uGz_2933 (b + s) (2 * s))
theorem uGz_2935 (b s : Nat) : xall (fun _ a => a ∈ lw_tbl) 3 b s Gz_2935 := And.intro (uGz_2931 b (2 * s)) (uGz_2934 (b + s) (2 * s))
theorem uGz_2936 (b s : Nat) : xall (fun _ a => a ∈ lw_tbl) 4 b s Gz_2936 := And.intro (uGz_2928 b (2 * s)) (uGz_2935 (b + s) (2 * s))
theorem uGz_2937 (b s : Nat) : xall (fun _ a => a ∈ lw_tbl) 5 b s Gz_2937 := And.intro (uGz_2921 b (2 * s)) (uGz_2936 (b + s) (2 * s))
theorem uGz_2938 (b s : Nat) : xall (fun _ a => a ∈ lw_tbl) 6 b s Gz_2938 := And.intro (uGz_2906 b (2 * s)) (uGz_2937 (b + s) (2 * s))
theorem uGz_2939 (b s : Nat) : xall (fun _ a => a ∈ lw_tbl) 7 b s Gz_2939 := And.intro (uGz_2875 b (2 * s)) (uGz_2938 (b + s) (2 * s))
theorem uGz_2940 (b s : Nat) : xall (fun _ a => a ∈ lw_tbl) 1 b s Gz_2940 := And.intro uz_29 uz_2077
theorem uGz_2941 (b s : Nat) : xall (fun _ a => a ∈ lw_tbl) 1 b s Gz_2941 := And.intro uz_1053 uz_0
theorem uGz_2942 (b s : Nat) : xall (fun _ a => a ∈ lw_tbl) 2 b s Gz_2942 := And.intro (uGz_2940 b (2 * s)) (uGz_2941 (b + s) (2 * s))
theorem uGz_2943 (b s : Nat) : xall (fun _ a => a ∈ lw_tbl) 1 b s Gz_2943 := And.intro uz_541 uz_0
theorem uGz_2944 (b s : Nat) : xall (fun _ a => a ∈ lw_tbl) 1 b s Gz_2944 := And.intro uz_1565 uz_0
theorem uGz_2945 (b s : Nat) : xall (fun _ a => a ∈ lw_tbl) 2 b s Gz_2945 := And.intro (uGz_2943 b (2 * s)) (uGz_2944 (b + s) (2 * s))
theorem uGz_2946 (b s : Nat) : xall (fun _ a => a ∈ lw_tbl) 3 b s Gz_2946 := And.intro (uGz_2942 b (2 * s)) (uGz_2945 (b + s) (2 * s))
theorem uGz_2947 (b s : Nat) : xall (fun _ a => a ∈ lw_tbl) 1 b s Gz_2947 := And.intro uz_285 uz_0
theorem uGz_2948 (b s : Nat) : xall (fun _ a => a ∈ lw_tbl) 1 b s Gz_2948 := And.intro uz_1309 uz_0
theorem uGz_2949 (b s : Nat) : xall (fun _ a => a ∈ lw_tbl) 2 b s Gz_2949 := And.intro (uGz_2947 b (2 * s)) (uGz_2948 (b + s) (2 * s))
theorem uGz_2950 (b s : Nat) : xall (fun _ a => a ∈ lw_tbl) 1 b s Gz_2950 := And.intro uz_797 uz_0
theorem uGz_2951 (b s : Nat) : xall (fun _ a => a ∈ lw_tbl) 1 b s Gz_2951 := And.intro uz_1821 uz_0
theorem uGz_2952 (b s : Nat) : xall (fun _ a => a ∈ lw_tbl) 2 b s Gz_2952 := And.intro (uGz_2950 b (2 * s)) (uGz_2951 (b + s) (2 * s))
theorem uGz_2953 (b s : Nat) : xall (fun _ a => a ∈ lw_tbl) 3 b s Gz_2953 := And.intro (uGz_2949 b (2 * s)) (uGz_2952 (b + s) (2 * s))
theorem uGz_2954 (b s : Nat) : xall (fun _ a => a ∈ lw_tbl) 4 b s Gz_2954 := And.intro (uGz_2946 b (2 * s)) (uGz_2953 (b + s) (2 * s))
theorem uGz_2955 (b s : Nat) : xall (fun _ a => a ∈ lw_tbl) 1 b s Gz_2955 := And.intro uz_157 uz_2205
theorem uGz_2956 (b s : Nat) : xall (fun _ a => a ∈ lw_tbl) 1 b s Gz_2956 := And.intro uz_1181 uz_0
theorem uGz_2957 (b s : Nat) : xall (fun _ a => a ∈ lw_tbl) 2 b s Gz_2957 := And.intro (uGz_2955 b (2 * s)) (uGz_2956 (b + s) (2 * s))
theorem uGz_2958 (b s : Nat) : xall (fun _ a => a ∈ lw_tbl) 1 b s Gz_2958 := And.intro uz_669 uz_0
theorem uGz_2959 (b s : Nat) : xall (fun _ a => a ∈ lw_tbl) 1 b s Gz_2959 := And.intro uz_1693 uz_0
theorem uGz_2960 (b s : Nat) : xall (fun _ a => a ∈ lw_tbl) 2 b s Gz_2960 := And.intro (uGz_2958 b (2 * s)) (uGz_2959 (b + s) (2 * s))
theorem uGz_2961 (b s : Nat) : xall (fun _ a => a ∈ lw_tbl) 3 b s Gz_2961 := And.intro (uGz_2957 b (2 * s)) (uGz_2960 (b + s) (2 * s))
theorem uGz_2962 (b s : Nat) : xall (fun _ a => a ∈ lw_tbl) 1 b s Gz_2962 := And.intro uz_413 uz_0
theorem uGz_2963 (b s : Nat) : xall (fun _ a => a ∈ lw_tbl) 1 b s Gz_2963 := And.intro uz_1437 uz_0
theorem uGz_2964 (b s : Nat) : xall (fun _ a => a ∈ lw_tbl) 2 b s Gz_2964 := And.intro (uGz_2962 b (2 * s)) (uGz_2963 (b + s) (2 * s))
theorem uGz_2965 (b s : Nat) : xall (fun _ a => a ∈ lw_tbl) 1 b s Gz_2965 := And.intro uz_925 uz_0
theorem uGz_2966 (b s : Nat) : xall (fun _ a => a ∈ lw_tbl) 1 b s Gz_2966 := And.intro uz_1949 uz_0
theorem uGz_2967 (b s : Nat) : xall (fun _ a => a ∈ lw_tbl) 2 b s Gz_2967 := And.intro (uGz_2965 b (2 * s)) (uGz_2966 (b + s) (2 * s))
theorem uGz_2968 (b s : Nat) : xall (fun _ a => a ∈ lw_tbl) 3 b s Gz_2968 := And.intro (uGz_2964 b (2 * s)) (uGz_2967 (b + s) (2 * s))
theorem uGz_2969 (b s : Nat) : xall (fun _ a => a ∈ lw_tbl) 4 b s Gz_2969 := And.intro (uGz_2961 b (2 * s)) (uGz_2968 (b + s) (2 * s))
theorem uGz_2970 (b s : Nat) : xall (fun _ a => a ∈ lw_tbl) 5 b s Gz_2970 := And.intro (uGz_2954 b (2 * s)) (uGz_2969 (b + s) (2 * s))
theorem uGz_2971 (b s : Nat) : xall (fun _ a => a ∈ lw_tbl) 1 b s Gz_2971 := And.intro uz_93 uz_2141
theorem uGz_2972 (b s : Nat) : xall (fun _ a => a ∈ lw_tbl) 1 b s Gz_2972 := And.intro uz_1117 uz_0
theorem uGz_2973 (b s : Nat) : xall (fun _ a => a ∈ lw_tbl) 2 b s Gz_2973 := And.intro (uGz_2971 b (2 * s)) (uGz_2972 (b + s) (2 * s))
theorem uGz_2974 (b s : Nat) : xall (fun _ a => a ∈ lw_tbl) 1 b s Gz_2974 := And.intro uz_605 uz_0
theorem uGz_2975 (b s : Nat) : xall (fun _ a => a ∈ lw_tbl) 1 b s Gz_2975 := And.intro uz_1629 uz_0
theorem uGz_2976 (b s : Nat) : xall (fun _ a => a ∈ lw_tbl) 2 b s Gz_2976 := And.intro (uGz_2974 b (2 * s)) (uGz_2975 (b + s) (2 * s))
theorem uGz_2977 (b s : Nat) : xall (fun _ a => a ∈ lw_tbl) 3 b s Gz_2977 := And.intro (uGz_2973 b (2 * s)) (uGz_2976 (b + s) (2 * s))
theorem uGz_2978 (b s : Nat) : xall (fun _ a => a ∈ lw_tbl) 1 b s Gz_2978 := And.intro uz_349 uz_0
theorem uGz_2979 (b s : Nat) : xall (fun _ a => a ∈ lw_tbl) 1 b s Gz_2979 := And.intro uz_1373 uz_0
theorem uGz_2980 (b s : Nat) : xall (fun _ a => a ∈ lw_tbl) 2 b s Gz_2980 := And.intro (uGz_2978 b (2 * s)) (uGz_2979 (b + s) (2 * s))
theorem uGz_2981 (b s : Nat) : xall (fun _ a => a ∈ lw_tbl) 1 b s Gz_2981 := And.intro uz_861 uz_0
theorem uGz_2982 (b s : Nat) : xall (fun _ a => a ∈ lw_tbl) 1 b s Gz_2982 := And.intro uz_1885 uz_0
theorem uGz_2983 (b s : Nat) : xall (fun _ a => a ∈ lw_tbl) 2 b s Gz_2983 := And.intro (uGz_2981 b (2 * s)) (uGz_2982 (b + s) (2 * s))
theorem uGz_2984 (b s : Nat) : xall (fun _ a => a ∈ lw_tbl) 3 b s Gz_2984 := And.intro (uGz_2980 b (2 * s)) (uGz_2983 (b + s) (2 * s))
theorem uGz_2985 (b s : Nat) : xall (fun _ a => a ∈ lw_tbl) 4 b s Gz_2985 := And.intro (uGz_2977 b (2 * s)) (uGz_2984 (b + s) (2 * s))
theorem uGz_2986 (b s : Nat) : xall (fun _ a => a ∈ lw_tbl) 1 b s Gz_2986 := And.intro uz_221 uz_0
theorem uGz_2987 (b s : Nat) : xall (fun _ a => a ∈ lw_tbl) 1 b s Gz_2987 := And.intro uz_1245 uz_0
theorem uGz_2988 (b s : Nat) : xall (fun _ a => a ∈ lw_tbl) 2 b s Gz_2988 := And.intro (uGz_2986 b (2 * s)) (uGz_2987 (b + s) (2 * s))
theorem uGz_2989 (b s : Nat) : xall (fun _ a => a ∈ lw_tbl) 1 b s Gz_2989 := And.intro uz_733 uz_0
theorem uGz_2990 (b s : Nat) : xall (fun _ a => a ∈ lw_tbl) 1 b s Gz_2990 := And.intro uz_1757 uz_0
theorem uGz_2991 (b s : Nat) : xall (fun _ a => a ∈ lw_tbl) 2 b s Gz_2991 := And.intro (uGz_2989 b (2 * s)) (uGz_2990 (b + s) (2 * s))
theorem uGz_2992 (b s : Nat) : xall (fun _ a => a ∈ lw_tbl) 3 b s Gz_2992 := And.intro (uGz_2988 b (2 * s)) (uGz_2991 (b + s) (2 * s))
theorem uGz_2993 (b s : Nat) : xall (fun _ a => a ∈ lw_tbl) 1 b s Gz_2993 := And.intro uz_477 uz_0
theorem uGz_2994 (b s : Nat) : xall (fun _ a => a ∈ lw_tbl) 1 b s Gz_2994 := And.intro uz_1501 uz_0
theorem uGz_2995 (b s : Nat) : xall (fun _ a => a ∈ lw_tbl) 2 b s Gz_2995 := And.intro (uGz_2993 b (2 * s)) (uGz_2994 (b + s) (2 * s))
theorem uGz_2996 (b s : Nat) : xall (fun _ a => a ∈ lw_tbl) 1 b s Gz_2996 := And.intro uz_989 uz_0
theorem uGz_2997 (b s : Nat) : xall (fun _ a => a ∈ lw_tbl) 1 b s Gz_2997 := And.intro uz_2013 uz_0
theorem uGz_2998 (b s : Nat) : xall (fun _ a => a ∈ lw_tbl) 2 b s Gz_2998 := And.intro (uGz_2996 b (2 * s)) (uGz_2997 (b + s) (2 * s))
theorem uGz_2999 (b s : Nat) : xall (fun _ a => a ∈ lw_tbl) 3 b s Gz_2999 := And.intro (uGz_2995 b (2 * s)) (uGz_2998 (b + s) (2 * s))
theorem uGz_3000 (b s : Nat) : xall (fun _ a => a ∈ lw_tbl) 4 b s Gz_3000 := And.intro (uGz_2992 b (2 * s)) (uGz_2999 (b + s) (2 * s))
theorem uGz_3001 (b s : Nat) : xall (fun _ a => a ∈ lw_tbl) 5 b s Gz_3001 := And.intro (uGz_2985 b (2 * s)) (uGz_3000 (b + s) (2 * s))
theorem uGz_3002 (b s : Nat) : xall (fun _ a => a ∈ lw_tbl) 6 b s Gz_3002 := And.intro (uGz_2970 b (2 * s)) (uGz_3001 (b + s) (2 * s))
theorem uGz_3003 (b s : Nat) : xall (fun _ a => a ∈ lw_tbl) 1 b s Gz_3003 := And.intro uz_61 uz_2109
theorem uGz_3004 (b s : Nat) : xall (fun _ a => a ∈ lw_tbl) 1 b s Gz_3004 := And.intro uz_1085 uz_0
theorem uGz_3005 (b s : Nat) : xall (fun _ a => a ∈ lw_tbl) 2 b s Gz_3005 := And.intro (uGz_3003 b (2 * s)) (uGz_3004 (b + s) (2 * s))
theorem uGz_3006 (b s : Nat) : xall (fun _ a => a ∈ lw_tbl) 1 b s Gz_3006 := And.intro uz_573 uz_0
theorem uGz_3007 (b s : Nat) : xall (fun _ a => a ∈ lw_tbl) 1 b s Gz_3007 := And.intro uz_1597 uz_0
theorem uGz_3008 (b s : Nat) : xall (fun _ a => a ∈ lw_tbl) 2 b s Gz_3008 := And.intro (uGz_3006 b (2 * s)) (uGz_3007 (b + s) (2 * s))
theorem uGz_3009 (b s : Nat) : xall (fun _ a => a ∈ lw_tbl) 3 b s Gz_3009 := And.intro (uGz_3005 b (2 * s)) (uGz_3008 (b + s) (2 * s))
theorem uGz_3010 (b s : Nat) : xall (fun _ a => a ∈ lw_tbl) 1 b s Gz_3010 := And.intro uz_317 uz_0
theorem uGz_3011 (b s : Nat) : xall (fun _ a => a ∈ lw_tbl) 1 b s Gz_3011 := And.intro uz_1341 uz_0
theorem uGz_3012 (b s : Nat) : xall (fun _ a => a ∈ lw_tbl) 2 b s Gz_3012 := And.intro (uGz_3010 b (2 * s)) (uGz_3011 (b + s) (2 * s))
theorem uGz_3013 (b s : Nat) : xall (fun _ a => a ∈ lw_tbl) 1 b s Gz_3013 := And.intro uz_829 uz_0
theorem uGz_3014 (b s : Nat) : xall (fun _ a => a ∈ lw_tbl) 1 b s Gz_3014 := And.intro uz_1853 uz_0
theorem uGz_3015 (b s : Nat) : xall (fun _ a => a ∈ lw_tbl) 2 b s Gz_3015 := And.intro (uGz_3013 b (2 * s)) (uGz_3014 (b + s) (2 * s))
theorem uGz_3016 (b s : Nat) : xall (fun _ a => a ∈ lw_tbl) 3 b s Gz_3016 := And.intro (uGz_3012 b (2 * s)) (uGz_3015 (b + s) (2 * s))
theorem uGz_3017 (b s : Nat) : xall (fun _ a => a ∈ lw_tbl) 4 b s Gz_3017 := And.intro (uGz_3009 b (2 * s)) (uGz_3016 (b + s) (2 * s))
theorem uGz_3018 (b s : Nat) : xall (fun _ a => a ∈ lw_tbl) 1 b s Gz_3018 := And.intro uz_189 uz_2237
theorem uGz_3019 (b s : Nat) : xall (fun _ a => a ∈ lw_tbl) 1 b s Gz_3019 := And.intro uz_1213 uz_0
theorem uGz_3020 (b s : Nat) : xall (fun _ a => a ∈ lw_tbl) 2 b s Gz_3020 := And.intro (uGz_3018 b (2 * s)) (uGz_3019 (b + s) (2 * s))
theorem uGz_3021 (b s : Nat) : xall (fun _ a => a ∈ lw_tbl) 1 b s Gz_3021 := And.intro uz_701 uz_0
theorem uGz_3022 (b s : Nat) : xall (fun _ a => a ∈ lw_tbl) 1 b s Gz_3022 := And.intro uz_1725 uz_0
theorem uGz_3023 (b s : Nat) : xall (fun _ a => a ∈ lw_tbl) 2 b s Gz_3023 := And.intro (uGz_3021 b (2 * s)) (uGz_3022 (b + s) (2 * s))
theorem uGz_3024 (b s : Nat) : xall (fun _ a => a ∈ lw_tbl) 3 b s Gz_3024 := And.intro (uGz_3020 b (2 * s)) (uGz_3023 (b + s) (2 * s))
theorem uGz_3025 (b s : Nat) : xall (fun _ a => a ∈ lw_tbl) 1 b s Gz_3025 := And.intro uz_445 uz_0
theorem uGz_3026 (b s : Nat) : xall (fun _ a => a ∈ lw_tbl) 1 b s Gz_3026 := And.intro uz_1469 uz_0
theorem uGz_3027 (b s : Nat) : xall (fun _ a => a ∈ lw_tbl) 2 b s Gz_3027 := And.intro (uGz_3025 b (2 * s)) (uGz_3026 (b + s) (2 * s))
theorem uGz_3028 (b s : Nat) : xall (fun _ a => a ∈ lw_tbl) 1 b s Gz_3028 := And.intro uz_957 uz_0
theorem uGz_3029 (b s : Nat) : xall (fun _ a => a ∈ lw_tbl) 1 b s Gz_3029 := And.intro uz_1981 uz_0
theorem uGz_3030 (b s : Nat) : xall (fun _ a => a ∈ lw_tbl) 2 b s Gz_3030 := And.intro (uGz_3028 b (2 * s)) (uGz_3029 (b + s) (2 * s))
theorem uGz_3031 (b s : Nat) : xall (fun _ a => a ∈ lw_tbl) 3 b s Gz_3031 := And.intro (uGz_3027 b (2 * s)) (uGz_3030 (b + s) (2 * s))
theorem uGz_3032 (b s : Nat) : xall (fun _ a => a ∈ lw_tbl) 4 b s Gz_3032 := And.intro (uGz_3024 b (2 * s)) (uGz_3031 (b + s) (2 * s))
theorem uGz_3033 (b s : Nat) : xall (fun _ a => a ∈ lw_tbl) 5 b s Gz_3033 := And.intro (uGz_3017 b (2 * s)) (uGz_3032 (b + s) (2 * s))
theorem uGz_3034 (b s : Nat) : xall (fun _ a => a ∈ lw_tbl) 1 b s Gz_3034 := And.intro uz_125 uz_2173
theorem uGz_3035 (b s : Nat) : xall (fun _ a => a ∈ lw_tbl) 1 b s Gz_3035 := And.intro uz_1149 uz_0
theorem uGz_3036 (b s : Nat) : xall (fun _ a => a ∈ lw_tbl) 2 b s Gz_3036 := And.intro (uGz_3034 b (2 * s)) (uGz_3035 (b + s) (2 * s))
theorem uGz_3037 (b s : Nat) : xall (fun _ a => a ∈ lw_tbl) 1 b s Gz_3037 := And.intro uz_637 uz_0
theorem uGz_3038 (b s : Nat) : xall (fun _ a => a ∈ lw_tbl) 1 b s Gz_3038 := And.intro uz_1661 uz_0
theorem uGz_3039 (b s : Nat) : xall (fun _ a => a ∈ lw_tbl) 2 b s Gz_3039 := And.intro (uGz_3037 b (2 * s)) (uGz_3038 (b + s) (2 * s))
theorem uGz_3040 (b s : Nat) : xall (fun _ a => a ∈ lw_tbl) 3 b s Gz_3040 := And.intro (uGz_3036 b (2 * s)) (uGz_3039 (b + s) (2 * s))
theorem uGz_3041 (b s : Nat) : xall (fun _ a => a ∈ lw_tbl) 1 b s Gz_3041 := And.intro uz_381 uz_0
theorem uGz_3042 (b s : Nat) : xall (fun _ a => a ∈ lw_tbl) 1 b s Gz_3042 := And.intro uz_1405 uz_0
theorem uGz_3043 (b s : Nat) : xall (fun _ a => a ∈ lw_tbl) 2 b s Gz_3043 := And.intro (uGz_3041 b (2 * s)) (uGz_3042 (b + s) (2 * s))
theorem uGz_3044 (b s : Nat) : xall (fun _ a => a ∈ lw_tbl) 1 b s Gz_3044 := And.intro uz_893 uz_0
theorem uGz_3045 (b s : Nat) : xall (fun _ a => a ∈ lw_tbl) 1 b s Gz_3045 := And.intro uz_1917 uz_0
theorem uGz_3046 (b s : Nat) : xall (fun _ a => a ∈ lw_tbl) 2 b s Gz_3046 := And.intro (uGz_3044 b (2 * s)) (uGz_3045 (b + s) (2 * s))
theorem uGz_3047 (b s : Nat) : xall (fun _ a => a ∈ lw_tbl) 3 b s Gz_3047 := And.intro (uGz_3043 b (2 * s)) (uGz_3046 (b + s) (2 * s))
theorem uGz_3048 (b s : Nat) : xall (fun _ a => a ∈ lw_tbl) 4 b s Gz_3048 := And.intro (uGz_3040 b (2 * s)) (uGz_3047 (b + s) (2 * s))
theorem uGz_3049 (b s : Nat) : xall (fun _ a => a ∈ lw_tbl) 1 b s Gz_3049 := And.intro uz_253 uz_0
theorem uGz_3050 (b s : Nat) : xall (fun _ a => a ∈ lw_tbl) 1 b s Gz_3050 := And.intro uz_1277 uz_0
theorem uGz_3051 (b s : Nat) : xall (fun _ a => a ∈ lw_tbl) 2 b s Gz_3051 := And.intro (uGz_3049 b (2 * s)) (uGz_3050 (b + s) (2 * s))
theorem uGz_3052 (b s : Nat) : xall (fun _ a => a ∈ lw_tbl) 1 b s Gz_3052 := And.intro uz_765 uz_0
theorem uGz_3053 (b s : Nat) : xall (fun _ a => a ∈ lw_tbl) 1 b s Gz_3053 := And.intro uz_1789 uz_0
theorem uGz_3054 (b s : Nat) : xall (fun _ a => a ∈ lw_tbl) 2 b s Gz_3054 := And.intro (uGz_3052 b (2 * s)) (uGz_3053 (b + s) (2 * s))
theorem uGz_3055 (b s : Nat) : xall (fun _ a => a ∈ lw_tbl) 3 b s Gz_3055 := And.intro (uGz_3051 b (2 * s)) (uGz_3054 (b + s) (2 * s))
theorem uGz_3056 (b s : Nat) : xall (fun _ a => a ∈ lw_tbl) 1 b s Gz_3056 := And.intro uz_509 uz_0
theorem uGz_3057 (b s : Nat) : xall (fun _ a => a ∈ lw_tbl) 1 b s Gz_3057 := And.intro uz_1533 uz_0
theorem uGz_3058 (b s : Nat) : xall (fun _ a => a ∈ lw_tbl) 2 b s Gz_3058 := And.intro (uGz_3056 b (2 * s)) (uGz_3057 (b + s) (2 * s))
theorem uGz_3059 (b s : Nat) : xall (fun _ a => a ∈ lw_tbl) 1 b s Gz_3059 := And.intro uz_1021 uz_0
theorem uGz_3060 (b s : Nat) : xall (fun _ a => a ∈ lw_tbl) 1 b s Gz_3060 := And.intro uz_2045 uz_0
theorem uGz_3061 (b s : Nat) : xall (fun _ a => a ∈ lw_tbl) 2 b s Gz_3061 := And.intro (uGz_3059 b (2 * s)) (uGz_3060 (b + s) (2 * s))
theorem uGz_3062 (b s : Nat) : xall (fun _ a => a ∈ lw_tbl) 3 b s Gz_3062 := And.intro (uGz_3058 b (2 * s)) (uGz_3061 (b + s) (2 * s))
theorem uGz_3063 (b s : Nat) : xall (fun _ a => a ∈ lw_tbl) 4 b s Gz_3063 := And.intro (uGz_3055 b (2 * s)) (uGz_3062 (b + s) (2 * s))
theorem uGz_3064 (b s : Nat) : xall (fun _ a => a ∈ lw_tbl) 5 b s Gz_3064 := And.intro (uGz_3048 b (2 * s)) (uGz_3063 (b + s) (2 * s))
theorem uGz_3065 (b s : Nat) : xall (fun _ a => a ∈ lw_tbl) 6 b s Gz_3065 := And.intro (uGz_3033 b (2 * s)) (uGz_3064 (b + s) (2 * s))
theorem uGz_3066 (b s : Nat) : xall (fun _ a => a ∈ lw_tbl) 7 b s Gz_3066 := And.intro (uGz_3002 b (2 * s)) (uGz_3065 (b + s) (2 * s))
theorem uGz_3067 (b s : Nat) : xall (fun _ a => a ∈ lw_tbl) 8 b s Gz_3067 := And.intro (uGz_2939 b (2 * s)) (uGz_3066 (b + s) (2 * s))
theorem uGz_3068 (b s : Nat) : xall (fun _ a => a ∈ lw_tbl) 9 b s Gz_3068 := And.intro (uGz_2812 b (2 * s)) (uGz_3067 (b + s) (2 * s))
theorem uGz_3069 (b s : Nat) : xall (fun _ a => a ∈ lw_tbl) 10 b s Gz_3069 := And.intro (uGz_2557 b (2 * s)) (uGz_3068 (b + s) (2 * s))
theorem uGz_3070 (b s : Nat) : xall (fun _ a => a ∈ lw_tbl) 1 b s Gz_3070 := And.intro uz_3 uz_2051
theorem uGz_3071 (b s : Nat) : xall (fun _ a => a ∈ lw_tbl) 1 b s Gz_3071 := And.intro uz_1027 uz_0
theorem uGz_3072 (b s : Nat) : xall (fun _ a => a ∈ lw_tbl) 2 b s Gz_3072 := And.intro (uGz_3070 b (2 * s)) (uGz_3071 (b + s) (2 * s))
theorem uGz_3073 (b s : Nat) : xall (fun _ a => a ∈ lw_tbl) 1 b s Gz_3073 := And.intro uz_515 uz_0
theorem uGz_3074 (b s : Nat) : xall (fun _ a => a ∈ lw_tbl) 1 b s Gz_3074 := And.intro uz_1539 uz_0
theorem uGz_3075 (b s : Nat) : xall (fun _ a => a ∈ lw_tbl) 2 b s Gz_3075 := And.intro (uGz_3073 b (2 * s)) (uGz_3074 (b + s) (2 * s))
theorem uGz_3076 (b s : Nat) : xall (fun _ a => a ∈ lw_tbl) 3 b s Gz_3076 := And.intro (uGz_3072 b (2 * s)) (uGz_3075 (b + s) (2 * s))
theorem uGz_3077 (b s : Nat) : xall (fun _ a => a ∈ lw_tbl) 1 b s Gz_3077 := And.intro uz_259 uz_0
theorem uGz_3078 (b s : Nat) : xall (fun _ a => a ∈ lw_tbl) 1 b s Gz_3078 := And.intro uz_1283 uz_0
theorem uGz_3079 (b s : Nat) : xall (fun _ a => a ∈ lw_tbl) 2 b s Gz_3079 := And.intro (uGz_3077 b (2 * s)) (uGz_3078 (b + s) (2 * s))
theorem uGz_3080 (b s : Nat) : xall (fun _ a => a ∈ lw_tbl) 1 b s Gz_3080 := And.intro uz_771 uz_0
theorem uGz_3081 (b s : Nat) : xall (fun _ a => a ∈ lw_tbl) 1 b s Gz_3081 := And.intro uz_1795 uz_0
theorem uGz_3082 (b s : Nat) : xall (fun _ a => a ∈ lw_tbl) 2 b s Gz_3082 := And.intro (uGz_3080 b (2 * s)) (uGz_3081 (b + s) (2 * s))
theorem uGz_3083 (b s : Nat) : xall (fun _ a => a ∈ lw_tbl) 3 b s Gz_3083 := And.intro (uGz_3079 b (2 * s)) (uGz_3082 (b + s) (2 * s))
theorem uGz_3084 (b s : Nat) : xall (fun _ a => a ∈ lw_tbl) 4 b s Gz_3084 := And.intro (uGz_3076 b (2 * s)) (uGz_3083 (b + s) (2 * s))
theorem uGz_3085 (b s : Nat) : xall (fun _ a => a ∈ lw_tbl) 1 b s Gz_3085 := And.intro uz_131 uz_2179
theorem uGz_3086 (b s : Nat) : xall (fun _ a => a ∈ lw_tbl) 1 b s Gz_3086 := And.intro uz_1155 uz_0
theorem uGz_3087 (b s : Nat) : xall (fun _ a => a ∈ lw_tbl) 2 b s Gz_3087 := And.intro (uGz_3085 b (2 * s)) (uGz_3086 (b + s) (2 * s))
theorem uGz_3088 (b s : Nat) : xall (fun _ a => a ∈ lw_tbl) 1 b s Gz_3088 := And.intro uz_643 uz_0
theorem uGz_3089 (b s : Nat) : xall (fun _ a => a ∈ lw_tbl) 1 b s Gz_3089 := And.intro uz_1667 uz_0
theorem uGz_3090 (b s : Nat) : xall (fun _ a => a ∈ lw_tbl) 2 b s Gz_3090 := And.intro (uGz_3088 b (2 * s)) (uGz_3089 (b + s) (2 * s))
theorem uGz_3091 (b s : Nat) : xall (fun _ a => a ∈ lw_tbl) 3 b s Gz_3091 := And.intro (uGz_3087 b (2 * s)) (uGz_3090 (b + s) (2 * s))
theorem uGz_3092 (b s : Nat) : xall (fun _ a => a ∈ lw_tbl) 1 b s Gz_3092 := And.intro uz_387 uz_0
theorem uGz_3093 (b s : Nat) : xall (fun _ a => a ∈ lw_tbl) 1 b s Gz_3093 := And.intro uz_1411 uz_0
theorem uGz_3094 (b s : Nat) : xall (fun _ a => a ∈ lw_tbl) 2 b s Gz_3094 := And.intro (uGz_3092 b (2 * s)) (uGz_3093 (b + s) (2 * s))
theorem uGz_3095 (b s : Nat) : xall (fun _ a => a ∈ lw_tbl) 1 b s Gz_3095 := And.intro uz_899 uz_0
theorem uGz_3096 (b s : Nat) : xall (fun _ a => a ∈ lw_tbl) 1 b s Gz_3096 := And.intro uz_1923 uz_0
theorem uGz_3097 (b s : Nat) : xall (fun _ a => a ∈ lw_tbl) 2 b s Gz_3097 := And.intro (uGz_3095 b (2 * s)) (uGz_3096 (b + s) (2 * s))
theorem uGz_3098 (b s : Nat) : xall (fun _ a => a ∈ lw_tbl) 3 b s Gz_3098 := And.intro (uGz_3094 b (2 * s)) (uGz_3097 (b + s) (2 * s))
theorem uGz_3099 (b s : Nat) : xall (fun _ a => a ∈ lw_tbl) 4 b s Gz_3099 := And.intro (uGz_3091 b (2 * s)) (uGz_3098 (b + s) (2 * s))
theorem uGz_3100 (b s : Nat) : xall (fun _ a => a ∈ lw_tbl) 5 b s Gz_3100 := And.intro (uGz_3084 b (2 * s)) (uGz_3099 (b + s) (2 * s))
theorem uGz_3101 (b s : Nat) : xall (fun _ a => a ∈ lw_tbl) 1 b s Gz_3101 := And.intro uz_67 uz_2115
theorem uGz_3102 (b s : Nat) : xall (fun _ a => a ∈ lw_tbl) 1 b s Gz_3102 := And.intro uz_1091 uz_0
theorem uGz_3103 (b s : Nat) : xall (fun _ a => a ∈ lw_tbl) 2 b s Gz_3103 := And.intro (uGz_3101 b (2 * s)) (uGz_3102 (b + s) (2 * s))
theorem uGz_3104 (b s : Nat) : xall (fun _ a => a ∈ lw_tbl) 1 b s Gz_3104 := And.intro uz_579 uz_0
theorem uGz_3105 (b s : Nat) : xall (fun _ a => a ∈ lw_tbl) 1 b s Gz_3105 := And.intro uz_1603 uz_0
theorem uGz_3106 (b s : Nat) : xall (fun _ a => a ∈ lw_tbl) 2 b s Gz_3106 := And.intro (uGz_3104 b (2 * s)) (uGz_3105 (b + s) (2 * s))
theorem uGz_3107 (b s : Nat) : xall (fun _ a => a ∈ lw_tbl) 3 b s Gz_3107 := And.intro (uGz_3103 b (2 * s)) (uGz_3106 (b + s) (2 * s))
theorem uGz_3108 (b s : Nat) : xall (fun _ a => a ∈ lw_tbl) 1 b s Gz_3108 := And.intro uz_323 uz_0
theorem uGz_3109 (b s : Nat) : xall (fun _ a => a ∈ lw_tbl) 1 b s Gz_3109 := And.intro uz_1347 uz_0
theorem uGz_3110 (b s : Nat) : xall (fun _ a => a ∈ lw_tbl) 2 b s Gz_3110 := And.intro (uGz_3108 b (2 * s)) (uGz_3109 (b + s) (2 * s))
theorem uGz_3111 (b s : Nat) : xall (fun _ a => a ∈ lw_tbl) 1 b s Gz_3111 := And.intro uz_835 uz_0
theorem uGz_3112 (b s : Nat) : xall (fun _ a => a ∈ lw_tbl) 1 b s Gz_3112 := And.intro uz_1859 uz_0
theorem uGz_3113 (b s : Nat) : xall (fun _ a => a ∈ lw_tbl) 2 b s Gz_3113 := And.intro (uGz_3111 b (2 * s)) (uGz_3112 (b + s) (2 * s))
theorem uGz_3114 (b s : Nat) : xall (fun _ a => a ∈ lw_tbl) 3 b s Gz_3114 := And.intro (uGz_3110 b (2 * s)) (uGz_3113 (b + s) (2 * s))
theorem uGz_3115 (b s : Nat) : xall (fun _ a => a ∈ lw_tbl) 4 b s Gz_3115 := And.intro (uGz_3107 b (2 * s)) (uGz_3114 (b + s) (2 * s))
theorem uGz_3116 (b s : Nat) : xall (fun _ a => a ∈ lw_tbl) 1 b s Gz_3116 := And.intro uz_195 uz_2243
theorem uGz_3117 (b s : Nat) : xall (fun _ a => a ∈ lw_tbl) 1 b s Gz_3117 := And.intro uz_1219 uz_0
theorem uGz_3118 (b s : Nat) : xall (fun _ a => a ∈ lw_tbl) 2 b s Gz_3118 := And.intro (uGz_3116 b (2 * s)) (uGz_3117 (b + s) (2 * s))
theorem uGz_3119 (b s : Nat) : xall (fun _ a => a ∈ lw_tbl) 1 b s Gz_3119 := And.intro uz_707 uz_0
theorem uGz_3120 (b s : Nat) : xall (fun _ a => a ∈ lw_tbl) 1 b s Gz_3120 := And.intro uz_1731 uz_0
theorem uGz_3121 (b s : Nat) : xall (fun _ a => a ∈ lw_tbl) 2 b s Gz_3121 := And.intro (uGz_3119 b (2 * s)) (uGz_3120 (b + s) (2 * s))
theorem uGz_3122 (b s : Nat) : xall (fun _ a => a ∈ lw_tbl) 3 b s Gz_3122 := And.intro (uGz_3118 b (2 * s)) (uGz_3121 (b + s) (2 * s))
theorem uGz_3123 (b s : Nat) : xall (fun _ a => a ∈ lw_tbl) 1 b s Gz_3123 := And.intro uz_451 uz_0
theorem uGz_3124 (b s : Nat) : xall (fun _ a => a ∈ lw_tbl) 1 b s Gz_3124 := And.intro uz_1475 uz_0
theorem uGz_3125 (b s : Nat) : xall (fun _ a => a ∈ lw_tbl) 2 b s Gz_3125 := And.intro (uGz_3123 b (2 * s)) (uGz_3124 (b + s) (2 * s))
theorem uGz_3126 (b s : Nat) : xall (fun _ a => a ∈ lw_tbl) 1 b s Gz_3126 := And.intro uz_963 uz_0
theorem uGz_3127 (b s : Nat) : xall (fun _ a => a ∈ lw_tbl) 1 b s Gz_3127 := And.intro uz_1987 uz_0
theorem uGz_3128 (b s : Nat) : xall (fun _ a => a ∈ lw_tbl) 2 b s Gz_3128 := And.intro (uGz_3126 b (2 * s)) (uGz_3127 (b + s) (2 * s))
theorem uGz_3129 (b s : Nat) : xall (fun _ a => a ∈ lw_tbl) 3 b s Gz_3129 := And.intro (uGz_3125 b (2 * s)) (uGz_3128 (b + s) (2 * s))
theorem uGz_3130 (b s : Nat) : xall (fun _ a => a ∈ lw_tbl) 4 b s Gz_3130 := And.intro (uGz_3122 b (2 * s)) (uGz_3129 (b + s) (2 * s))
theorem uGz_3131 (b s : Nat) : xall (fun _ a => a ∈ lw_tbl) 5 b s Gz_3131 := And.intro (uGz_3115 b (2 * s)) (uGz_3130 (b + s) (2 * s))
theorem uGz_3132 (b s : Nat) : xall (fun _ a => a ∈ lw_tbl) 6 b s Gz_3132 := And.intro (uGz_3100 b (2 * s)) (uGz_3131 (b + s) (2 * s))
theorem uGz_3133 (b s : Nat) : xall (fun _ a => a ∈ lw_tbl) 1 b s Gz_3133 := And.intro uz_35 uz_2083
theorem uGz_3134 (b s : Nat) : xall (fun _ a => a ∈ lw_tbl) 1 b s Gz_3134 := And.intro uz_1059 uz_0
theorem uGz_3135 (b s : Nat) : xall (fun _ a => a ∈ lw_tbl) 2 b s Gz_3135 := And.intro (uGz_3133 b (2 * s)) (uGz_3134 (b + s) (2 * s))
theorem uGz_3136 (b s : Nat) : xall (fun _ a => a ∈ lw_tbl) 1 b s Gz_3136 := And.intro uz_547 uz_0
theorem uGz_3137 (b s : Nat) : xall (fun _ a => a ∈ lw_tbl) 1 b s Gz_3137 := And.intro uz_1571 uz_0
theorem uGz_3138 (b s : Nat) : xall (fun _ a => a ∈ lw_tbl) 2 b s Gz_3138 := And.intro (uGz_3136 b (2 * s)) (uGz_3137 (b + s) (2 * s))
theorem uGz_3139 (b s : Nat) : xall (fun _ a => a ∈ lw_tbl) 3 b s Gz_3139 := And.intro (uGz_3135 b (2 * s)) (uGz_3138 (b + s) (2 * s))
theorem uGz_3140 (b s : Nat) : xall (fun _ a => a ∈ lw_tbl) 1 b s Gz_3140 := And.intro uz_291 uz_0
theorem uGz_3141 (b s : Nat) : xall (fun _ a => a ∈ lw_tbl) 1 b s Gz_3141 := And.intro uz_1315 uz_0
theorem uGz_3142 (b s : Nat) : xall (fun _ a => a ∈ lw_tbl) 2 b s Gz_3142 := And.intro (uGz_3140 b (2 * s)) (uGz_3141 (b + s) (2 * s))
theorem uGz_3143 (b s : Nat) : xall (fun _ a => a ∈ lw_tbl) 1 b s Gz_3143 := And.intro uz_803 uz_0
theorem uGz_3144 (b s : Nat) : xall (fun _ a => a ∈ lw_tbl) 1 b s Gz_3144 := And.intro uz_1827 uz_0
theorem uGz_3145 (b s : Nat) : xall (fun _ a => a ∈ lw_tbl) 2 b s Gz_3145 := And.intro (uGz_3143 b (2 * s)) (uGz_3144 (b + s) (2 * s))
theorem uGz_3146 (b s : Nat) : xall (fun _ a => a ∈ lw_tbl) 3 b s Gz_3146 := And.intro (uGz_3142 b (2 * s)) (uGz_3145 (b + s) (2 * s))
theorem uGz_3147 (b s : Nat) : xall (fun _ a => a ∈ lw_tbl) 4 b s Gz_3147 := And.intro (uGz_3139 b (2 * s)) (uGz_3146 (b + s) (2 * s))
theorem uGz_3148 (b s : Nat) : xall (fun _ a => a ∈ lw_tbl) 1 b s Gz_3148 := And.intro uz_163 uz_2211
theorem uGz_3149 (b s : Nat) : xall (fun _ a => a ∈ lw_tbl) 1 b s Gz_3149 := And.intro uz_1187 uz_0
theorem uGz_3150 (b s : Nat) : xall (fun _ a => a ∈ lw_tbl) 2 b s Gz_3150 := And.intro (uGz_3148 b (2 * s)) (uGz_3149 (b + s) (2 * s))
theorem uGz_3151 (b s : Nat) : xall (fun _ a => a ∈ lw_tbl) 1 b s Gz_3151 := And.intro uz_675 uz_0
theorem uGz_3152 (b s : Nat) : xall (fun _ a => a ∈ lw_tbl) 1 b s Gz_3152 := And.intro uz_1699 uz_0
theorem uGz_3153 (b s : Nat) : xall (fun _ a => a ∈ lw_tbl) 2 b s Gz_3153 := And.intro (uGz_3151 b (2 * s)) (uGz_3152 (b + s) (2 * s))
theorem uGz_3154 (b s : Nat) : xall (fun _ a => a ∈ lw_tbl) 3 b s Gz_3154 := And.intro (uGz_3150 b (2 * s)) (uGz_3153 (b + s) (2 * s))
theorem uGz_3155 (b s : Nat) : xall (fun _ a => a ∈ lw_tbl) 1 b s Gz_3155 := And.intro uz_419 uz_0
theorem uGz_3156 (b s : Nat) : xall (fun _ a => a ∈ lw_tbl) 1 b s Gz_3156 := And.intro uz_1443 uz_0
theorem uGz_3157 (b s : Nat) : xall (fun _ a => a ∈ lw_tbl) 2 b s Gz_3157 := And.intro (uGz_3155 b (2 * s)) (uGz_3156 (b + s) (2 * s))
theorem uGz_3158 (b s : Nat) : xall (fun _ a => a ∈ lw_tbl) 1 b s Gz_3158 := And.intro uz_931 uz_0
theorem uGz_3159 (b s : Nat) : xall (fun _ a => a ∈ lw_tbl) 1 b s Gz_3159 := And.intro uz_1955 uz_0
theorem uGz_3160 (b s : Nat) : xall (fun _ a => a ∈ lw_tbl) 2 b s Gz_3160 := And.intro (uGz_3158 b (2 * s)) (uGz_3159 (b + s) (2 * s))
theorem uGz_3161 (b s : Nat) : xall (fun _ a => a ∈ lw_tbl) 3 b s Gz_3161 := And.intro (uGz_3157 b (2 * s)) (uGz_3160 (b + s) (2 * s))
theorem uGz_3162 (b s : Nat) : xall (fun _ a => a ∈ lw_tbl) 4 b s Gz_3162 := And.intro (uGz_3154 b (2 * s)) (uGz_3161 (b + s) (2 * s))
theorem uGz_3163 (b s : Nat) : xall (fun _ a => a ∈ lw_tbl) 5 b s Gz_3163 := And.intro (uGz_3147 b (2 * s)) (uGz_3162 (b + s) (2 * s))
theorem uGz_3164 (b s : Nat) : xall (fun _ a => a ∈ lw_tbl) 1 b s Gz_3164 := And.intro uz_99 uz_2147
theorem uGz_3165 (b s : Nat) : xall (fun _ a => a ∈ lw_tbl) 1 b s Gz_3165 := And.intro uz_1123 uz_0
theorem uGz_3166 (b s : Nat) : xall (fun _ a => a ∈ lw_tbl) 2 b s Gz_3166 := And.intro (uGz_3164 b (2 * s)) (uGz_3165 (b + s) (2 * s))
theorem uGz_3167 (b s : Nat) : xall (fun _ a => a ∈ lw_tbl) 1 b s Gz_3167 := And.intro uz_611 uz_0
theorem uGz_3168 (b s : Nat) : xall (fun _ a => a ∈ lw_tbl) 1 b s Gz_3168 := And.intro uz_1635 uz_0
theorem uGz_3169 (b s : Nat) : xall (fun _ a => a ∈ lw_tbl) 2 b s Gz_3169 := And.intro (uGz_3167 b (2 * s)) (uGz_3168 (b + s) (2 * s))
theorem uGz_3170 (b s : Nat) : xall (fun _ a => a ∈ lw_tbl) 3 b s Gz_3170 := And.intro (uGz_3166 b (2 * s)) (uGz_3169 (b + s) (2 * s))
theorem uGz_3171 (b s : Nat) : xall (fun _ a => a ∈ lw_tbl) 1 b s Gz_3171 := And.intro uz_355 uz_0
theorem uGz_3172 (b s : Nat) : xall (fun _ a => a ∈ lw_tbl) 1 b s Gz_3172 := And.intro uz_1379 uz_0
theorem uGz_3173 (b s : Nat) : xall (fun _ a => a ∈ lw_tbl) 2 b s Gz_3173 := And.intro (uGz_3171 b (2 * s)) (uGz_3172 (b + s) (2 * s))
theorem uGz_3174 (b s : Nat) : xall (fun _ a => a ∈ lw_tbl) 1 b s Gz_3174 := And.intro uz_867 uz_0
theorem uGz_3175 (b s : Nat) : xall (fun _ a => a ∈ lw_tbl) 1 b s Gz_3175 := And.intro uz_1891 uz_0
theorem uGz_3176 (b s : Nat) : xall (fun _ a => a ∈ lw_tbl) 2 b s Gz_3176 := And.intro (uGz_3174 b (2 * s)) (uGz_3175 (b + s) (2 * s))
theorem uGz_3177 (b s : Nat) : xall (fun _ a => a ∈ lw_tbl) 3 b s Gz_3177 := And.intro (uGz_3173 b (2 * s)) (uGz_3176 (b + s) (2 * s))
theorem uGz_3178 (b s : Nat) : xall (fun _ a => a ∈ lw_tbl) 4 b s Gz_3178 := And.intro (uGz_3170 b (2 * s)) (uGz_3177 (b + s) (2 * s))
theorem uGz_3179 (b s : Nat) : xall (fun _ a => a ∈ lw_tbl) 1 b s Gz_3179 := And.intro uz_227 uz_0
theorem uGz_3180 (b s : Nat) : xall (fun _ a => a ∈ lw_tbl) 1 b s Gz_3180 := And.intro uz_1251 uz_0
theorem uGz_3181 (b s : Nat) : xall (fun _ a => a ∈ lw_tbl) 2 b s Gz_3181 := And.intro (uGz_3179 b (2 * s)) (uGz_3180 (b + s) (2 * s))
theorem uGz_3182 (b s : Nat) : xall (fun _ a => a ∈ lw_tbl) 1 b s Gz_3182 := And.intro uz_739 uz_0
theorem uGz_3183 (b s : Nat) : xall (fun _ a => a ∈ lw_tbl) 1 b s Gz_3183 := And.intro uz_1763 uz_0
theorem uGz_3184 (b s : Nat) : xall (fun _ a => a ∈ lw_tbl) 2 b s Gz_3184 := And.intro (uGz_3182 b (2 * s)) (uGz_3183 (b + s) (2 * s))
theorem uGz_3185 (b s : Nat) : xall (fun _ a => a ∈ lw_tbl) 3 b s Gz_3185 := And.intro (uGz_3181 b (2 * s)) (uGz_3184 (b + s) (2 * s))
theorem uGz_3186 (b s : Nat) : xall (fun _ a => a ∈ lw_tbl) 1 b s Gz_3186 := And.intro uz_483 uz_0
theorem uGz_3187 (b s : Nat) : xall (fun _ a => a ∈ lw_tbl) 1 b s Gz_3187 := And.intro uz_1507 uz_0
theorem uGz_3188 (b s : Nat) : xall (fun _ a => a ∈ lw_tbl) 2 b s Gz_3188 := And.intro (uGz_3186 b (2 * s)) (uGz_3187 (b + s) (2 * s))
theorem uGz_3189 (b s : Nat) : xall (fun _ a => a ∈ lw_tbl) 1 b s Gz_3189 := And.intro uz_995 uz_0
theorem uGz_3190 (b s : Nat) : xall (fun _ a => a ∈ lw_tbl) 1 b s Gz_3190 := And.intro uz_2019 uz_0
theorem uGz_3191 (b s : Nat) : xall (fun _ a => a ∈ lw_tbl) 2 b s Gz_3191 := And.intro (uGz_3189 b (2 * s)) (uGz_3190 (b + s) (2 * s))
theorem uGz_3192 (b s : Nat) : xall (fun _ a => a ∈ lw_tbl) 3 b s Gz_3192 := And.intro (uGz_3188 b (2 * s)) (uGz_3191 (b + s) (2 * s))
theorem uGz_3193 (b s : Nat) : xall (fun _ a => a ∈ lw_tbl) 4 b s Gz_3193 := And.intro (uGz_3185 b (2 * s)) (uGz_3192 (b + s) (2 * s))
theorem uGz_3194 (b s : Nat) : xall (fun _ a => a ∈ lw_tbl) 5 b s Gz_3194 := And.intro (uGz_3178 b (2 * s)) (uGz_3193 (b + s) (2 * s))
theorem uGz_3195 (b s : Nat) : xall (fun _ a => a ∈ lw_tbl) 6 b s Gz_3195 := And.intro (uGz_3163 b (2 * s)) (uGz_3194 (b + s) (2 * s))
theorem uGz_3196 (b s : Nat) : xall (fun _ a => a ∈ lw_tbl) 7 b s Gz_3196 := And.intro (uGz_3132 b (2 * s)) (uGz_3195 (b + s) (2 * s))
theorem uGz_3197 (b s : Nat) : xall (fun _ a => a ∈ lw_tbl) 1 b s Gz_3197 := And.intro uz_19 uz_2067
theorem uGz_3198 (b s : Nat) : xall (fun _ a => a ∈ lw_tbl) 1 b s Gz_3198 := And.intro uz_1043 uz_0
theorem uGz_3199 (b s : Nat) : xall (fun _ a => a ∈ lw_tbl) 2 b s Gz_3199 := And.intro (uGz_3197 b (2 * s)) (uGz_3198 (b + s) (2 * s))
theorem uGz_3200 (b s : Nat) : xall (fun _ a => a ∈ lw_tbl) 1 b s Gz_3200 := And.intro uz_531 uz_0
theorem uGz_3201 (b s : Nat) : xall (fun _ a => a ∈ lw_tbl) 1 b s Gz_3201 := And.intro uz_1555 uz_0
theorem uGz_3202 (b s : Nat) : xall (fun _ a => a ∈ lw_tbl) 2 b s Gz_3202 := And.intro (uGz_3200 b (2 * s)) (uGz_3201 (b + s) (2 * s))
theorem uGz_3203 (b s : Nat) : xall (fun _ a => a ∈ lw_tbl) 3 b s Gz_3203 := And.intro (uGz_3199 b (2 * s)) (uGz_3202 (b + s) (2 * s))
theorem uGz_3204 (b s : Nat) : xall (fun _ a => a ∈ lw_tbl) 1 b s Gz_3204 := And.intro uz_275 uz_0
theorem uGz_3205 (b s : Nat) : xall (fun _ a => a ∈ lw_tbl) 1 b s Gz_3205 := And.intro uz_1299 uz_0
theorem uGz_3206 (b s : Nat) : xall (fun _ a => a ∈ lw_tbl) 2 b s Gz_3206 := And.intro (uGz_3204 b (2 * s)) (uGz_3205 (b + s) (2 * s))
theorem uGz_3207 (b s : Nat) : xall (fun _ a => a ∈ lw_tbl) 1 b s Gz_3207 := And.intro uz_787 uz_0
theorem uGz_3208 (b s : Nat) : xall (fun _ a => a ∈ lw_tbl) 1 b s Gz_3208 := And.intro uz_1811 uz_0
theorem uGz_3209 (b s : Nat) : xall (fun _ a => a ∈ lw_tbl) 2 b s Gz_3209 := And.intro (uGz_3207 b (2 * s)) (uGz_3208 (b + s) (2 * s))
theorem uGz_3210 (b s : Nat) : xall (fun _ a => a ∈ lw_tbl) 3 b s Gz_3210 := And.intro (uGz_3206 b (2 * s)) (uGz_3209 (b + s) (2 * s))
theorem uGz_3211 (b s : Nat) : xall (fun _ a => a ∈ lw_tbl) 4 b s Gz_3211 := And.intro (uGz_3203 b (2 * s)) (uGz_3210 (b + s) (2 * s))
theorem uGz_3212 (b s : Nat) : xall (fun _ a => a ∈ lw_tbl) 1 b s Gz_3212 := And.intro uz_147 uz_2195
theorem uGz_3213 (b s : Nat) : xall (fun _ a => a ∈ lw_tbl) 1 b s Gz_3213 := And.intro uz_1171 uz_0
theorem uGz_3214 (b s : Nat) : xall (fun _ a => a ∈ lw_tbl) 2 b s Gz_3214 := And.intro (uGz_3212 b (2 * s)) (uGz_3213 (b + s) (2 * s))
theorem uGz_3215 (b s : Nat) : xall (fun _ a => a ∈ lw_tbl) 1 b s Gz_3215 := And.intro uz_659 uz_0
theorem uGz_3216 (b s : Nat) : xall (fun _ a => a ∈ lw_tbl) 1 b s Gz_3216 := And.intro uz_1683 uz_0
theorem uGz_3217 (b s : Nat) : xall (fun _ a => a ∈ lw_tbl) 2 b s Gz_3217 := And.intro (uGz_3215 b (2 * s)) (uGz_3216 (b + s) (2 * s))
theorem uGz_3218 (b s : Nat) : xall (fun _ a => a ∈ lw_tbl) 3 b s Gz_3218 := And.intro (uGz_3214 b (2 * s)) (uGz_3217 (b + s) (2 * s))
theorem uGz_3219 (b s : Nat) : xall (fun _ a => a ∈ lw_tbl) 1 b s Gz_3219 := And.intro uz_403 uz_0
theorem uGz_3220 (b s : Nat) : xall (fun _ a => a ∈ lw_tbl) 1 b s Gz_3220 := And.intro uz_1427 uz_0
theorem uGz_3221 (b s : Nat) : xall (fun _ a => a ∈ lw_tbl) 2 b s Gz_3221 := And.intro (uGz_3219 b (2 * s)) (uGz_3220 (b + s) (2 * s))
theorem uGz_3222 (b s : Nat) : xall (fun _ a => a ∈ lw_tbl) 1 b s Gz_3222 := And.intro uz_915 uz_0
theorem uGz_3223 (b s : Nat) : xall (fun _ a => a ∈ lw_tbl) 1 b s Gz_3223 := And.intro uz_1939 uz_0
theorem uGz_3224 (b s : Nat) : xall (fun _ a => a ∈ lw_tbl) 2 b s Gz_3224 := And.intro (uGz_3222 b (2 * s)) (uGz_3223 (b + s) (2 * s))
theorem uGz_3225 (b s : Nat) : xall (fun _ a => a ∈ lw_tbl) 3 b s Gz_3225 := And.intro (uGz_3221 b (2 * s)) (uGz_3224 (b + s) (2 * s))
theorem uGz_3226 (b s : Nat) : xall (fun _ a => a ∈ lw_tbl) 4 b s Gz_3226 := And.intro (uGz_3218 b (2 * s)) (uGz_3225 (b + s) (2 * s))
theorem uGz_3227 (b s : Nat) : xall (fun _ a => a ∈ lw_tbl) 5 b s Gz_3227 := And.intro (uGz_3211 b (2 * s)) (uGz_3226 (b + s) (2 * s))
theorem uGz_3228 (b s : Nat) : xall (fun _ a => a ∈ lw_tbl) 1 b s Gz_3228 := And.intro uz_83 uz_2131
theorem uGz_3229 (b s : Nat) : xall (fun _ a => a ∈ lw_tbl) 1 b s Gz_3229 := And.intro uz_1107 uz_0
theorem uGz_3230 (b s : Nat) : xall (fun _ a => a ∈ lw_tbl) 2 b s Gz_3230 := And.intro (uGz_3228 b (2 * s)) (uGz_3229 (b + s) (2 * s))
theorem uGz_3231 (b s : Nat) : xall (fun _ a => a ∈ lw_tbl) 1 b s Gz_3231 := And.intro uz_595 uz_0
theorem uGz_3232 (b s : Nat) : xall (fun _ a => a ∈ lw_tbl) 1 b s Gz_3232 := And.intro uz_1619 uz_0
theorem uGz_3233 (b s : Nat) : xall (fun _ a => a ∈ lw_tbl) 2 b s Gz_3233 := And.intro (uGz_3231 b (2 * s)) (uGz_3232 (b + s) (2 * s))
theorem uGz_3234 (b s : Nat) : xall (fun _ a => a ∈ lw_tbl) 3 b s Gz_3234 := And.intro (uGz_3230 b (2 * s)) (uGz_3233 (b + s) (2 * s))
theorem uGz_3235 (b s : Nat) : xall (fun _ a => a ∈ lw_tbl) 1 b s Gz_3235 := And.intro uz_339 uz_0
theorem uGz_3236 (b s : Nat) : xall (fun _ a => a ∈ lw_tbl) 1 b s Gz_3236 := And.intro uz_1363 uz_0
theorem uGz_3237 (b s : Nat) : xall (fun _ a => a ∈ lw_tbl) 2 b s Gz_3237 := And.intro (uGz_3235 b (2 * s)) (uGz_3236 (b + s) (2 * s))
theorem uGz_3238 (b s : Nat) : xall (fun _ a => a ∈ lw_tbl) 1 b s Gz_3238 := And.intro uz_851 uz_0
theorem uGz_3239 (b s : Nat) : xall (fun _ a => a ∈ lw_tbl) 1 b s Gz_3239 := And.intro uz_1875 uz_0
theorem uGz_3240 (b s : Nat) : xall (fun _ a => a ∈ lw_tbl) 2 b s Gz_3240 := And.intro (uGz_3238 b (2 * s)) (uGz_3239 (b + s) (2 * s))
theorem uGz_3241 (b s : Nat) : xall (fun _ a => a ∈ lw_tbl) 3 b s Gz_3241 := And.intro (uGz_3237 b (2 * s)) (uGz_3240 (b + s) (2 * s))
theorem uGz_3242 (b s : Nat) : xall (fun _ a => a ∈ lw_tbl) 4 b s Gz_3242 := And.intro (uGz_3234 b (2 * s)) (uGz_3241 (b + s) (2 * s))
theorem uGz_3243 (b s : Nat) : xall (fun _ a => a ∈ lw_tbl) 1 b s Gz_3243 := And.intro uz_211 uz_2259
theorem uGz_3244 (b s : Nat) : xall (fun _ a => a ∈ lw_tbl) 1 b s Gz_3244 := And.intro uz_1235 uz_0
theorem uGz_3245 (b s : Nat) : xall (fun _ a => a ∈ lw_tbl) 2 b s Gz_3245 := And.intro (uGz_3243 b (2 * s)) (uGz_3244 (b + s) (2 * s))
theorem uGz_3246 (b s : Nat) : xall (fun _ a => a ∈ lw_tbl) 1 b s Gz_3246 := And.intro uz_723 uz_0
theorem uGz_3247 (b s : Nat) : xall (fun _ a => a ∈ lw_tbl) 1 b s Gz_3247 := And.intro uz_1747 uz_0
theorem uGz_3248 (b s : Nat) : xall (fun _ a => a ∈ lw_tbl) 2 b s Gz_3248 := And.intro (uGz_3246 b (2 * s)) (uGz_3247 (b + s) (2 * s))
theorem uGz_3249 (b s : Nat) : xall (fun _ a => a ∈ lw_tbl) 3 b s Gz_3249 := And.intro (uGz_3245 b (2 * s)) (uGz_3248 (b + s) (2 * s))
theorem uGz_3250 (b s : Nat) : xall (fun _ a => a ∈ lw_tbl) 1 b s Gz_3250 := And.intro uz_467 uz_0
theorem uGz_3251 (b s : Nat) : xall (fun _ a => a ∈ lw_tbl) 1 b s Gz_3251 := And.intro uz_1491 uz_0
theorem uGz_3252 (b s : Nat) : xall (fun _ a => a ∈ lw_tbl) 2 b s Gz_3252 := And.intro (uGz_3250 b (2 * s)) (uGz_3251 (b + s) (2 * s))
theorem uGz_3253 (b s : Nat) : xall (fun _ a => a ∈ lw_tbl) 1 b s Gz_3253 := And.intro uz_979 uz_0
theorem uGz_3254 (b s : Nat) : xall (fun _ a => a ∈ lw_tbl) 1 b s Gz_3254 := And.intro uz_2003 uz_0
theorem uGz_3255 (b s : Nat) : xall (fun _ a => a ∈ lw_tbl) 2 b s Gz_3255 := And.intro (uGz_3253 b (2 * s)) (uGz_3254 (b + s) (2 * s))
theorem uGz_3256 (b s : Nat) : xall (fun _ a => a ∈ lw_tbl) 3 b s Gz_3256 := And.intro (uGz_3252 b (2 * s)) (uGz_3255 (b + s) (2 * s))
theorem uGz_3257 (b s : Nat) : xall (fun _ a => a ∈ lw_tbl) 4 b s Gz_3257 := And.intro (uGz_3249 b (2 * s)) (uGz_3256 (b + s) (2 * s))
theorem uGz_3258 (b s : Nat) : xall (fun _ a => a ∈ lw_tbl) 5 b s Gz_3258 := And.intro (uGz_3242 b (2 * s)) (uGz_3257 (b + s) (2 * s))
theorem uGz_3259 (b s : Nat) : xall (fun _ a => a ∈ lw_tbl) 6 b s Gz_3259 := And.intro (uGz_3227 b (2 * s)) (uGz_3258 (b + s) (2 * s))
theorem uGz_3260 (b s : Nat) : xall (fun _ a => a ∈ lw_tbl) 1 b s Gz_3260 := And.intro uz_51 uz_2099
theorem uGz_3261 (b s : Nat) : xall (fun _ a => a ∈ lw_tbl) 1 b s Gz_3261 := And.intro uz_1075 uz_0
theorem uGz_3262 (b s : Nat) : xall (fun _ a => a ∈ lw_tbl) 2 b s Gz_3262 := And.intro (uGz_3260 b (2 * s)) (uGz_3261 (b + s) (2 * s))
theorem uGz_3263 (b s : Nat) : xall (fun _ a => a ∈ lw_tbl) 1 b s Gz_3263 := And.intro uz_563 uz_0
theorem uGz_3264 (b s : Nat) : xall (fun _ a => a ∈ lw_tbl) 1 b s Gz_3264 := And.intro uz_1587 uz_0
theorem uGz_3265 (b s : Nat) : xall (fun _ a => a ∈ lw_tbl) 2 b s Gz_3265 := And.intro (uGz_3263 b (2 * s)) (uGz_3264 (b + s) (2 * s))
theorem uGz_3266 (b s : Nat) : xall (fun _ a => a ∈ lw_tbl) 3 b s Gz_3266 := And.intro (uGz_3262 b (2 * s)) (uGz_3265 (b + s) (2 * s))
theorem uGz_3267 (b s : Nat) : xall (fun _ a => a ∈ lw_tbl) 1 b s Gz_3267 := And.intro uz_307 uz_0
theorem uGz_3268 (b s : Nat) : xall (fun _ a => a ∈ lw_tbl) 1 b s Gz_3268 := And.intro uz_1331 uz_0
theorem uGz_3269 (b s : Nat) : xall (fun _ a => a ∈ lw_tbl) 2 b s Gz_3269 := And.intro (uGz_3267 b (2 * s)) (uGz_3268 (b + s) (2 * s))
theorem uGz_3270 (b s : Nat) : xall (fun _ a => a ∈ lw_tbl) 1 b s Gz_3270 := And.intro uz_819 uz_0
theorem uGz_3271 (b s : Nat) : xall (fun _ a => a ∈ lw_tbl) 1 b s Gz_3271 := And.intro uz_1843 uz_0
theorem uGz_3272 (b s : Nat) : xall (fun _ a => a ∈ lw_tbl) 2 b s Gz_3272 := And.intro (uGz_3270 b (2 * s)) (uGz_3271 (b + s) (2 * s))
theorem uGz_3273 (b s : Nat) : xall (fun _ a => a ∈ lw_tbl) 3 b s Gz_3273 := And.intro (uGz_3269 b (2 * s)) (uGz_3272 (b + s) (2 * s))
theorem uGz_3274 (b s : Nat) : xall (fun _ a => a ∈ lw_tbl) 4 b s Gz_3274 := And.intro (uGz_3266 b (2 * s)) (uGz_3273 (b + s) (2 * s))
theorem uGz_3275 (b s : Nat) : xall (fun _ a => a ∈ lw_tbl) 1 b s Gz_3275 := And.intro uz_179 uz_2227
theorem uGz_3276 (b s : Nat) : xall (fun _ a => a ∈ lw_tbl) 1 b s Gz_3276 := And.intro uz_1203 uz_0
theorem uGz_3277 (b s : Nat) : xall (fun _ a => a ∈ lw_tbl) 2 b s Gz_3277 := And.intro (uGz_3275 b (2 * s)) (uGz_3276 (b + s) (2 * s))
theorem uGz_3278 (b s : Nat) : xall (fun _ a => a ∈ lw_tbl) 1 b s Gz_3278 := And.intro uz_691 uz_0
theorem uGz_3279 (b s : Nat) : xall (fun _ a => a ∈ lw_tbl) 1 b s Gz_3279 := And.intro uz_1715 uz_0
theorem uGz_3280 (b s : Nat) : xall (fun _ a => a ∈ lw_tbl) 2 b s Gz_3280 := And.intro (uGz_3278 b (2 * s)) (uGz_3279 (b + s) (2 * s))
theorem uGz_3281 (b s : Nat) : xall (fun _ a => a ∈ lw_tbl) 3 b s Gz_3281 := And.intro (uGz_3277 b (2 * s)) (uGz_3280 (b + s) (2 * s))
theorem uGz_3282 (b s : Nat) : xall (fun _ a => a ∈ lw_tbl) 1 b s Gz_3282 := And.intro uz_435 uz_0
theorem uGz_3283 (b s : Nat) : xall (fun _ a => a ∈ lw_tbl) 1 b s Gz_3283 := And.intro uz_1459 uz_0
theorem uGz_3284 (b s : Nat) : xall (fun _ a => a ∈ lw_tbl) 2 b s Gz_3284 := And.intro (uGz_3282 b (2 * s)) (uGz_3283 (b + s) (2 * s))
theorem uGz_3285 (b s : Nat) : xall (fun _ a => a ∈ lw_tbl) 1 b s Gz_3285 := And.intro uz_947 uz_0
theorem uGz_3286 (b s : Nat) : xall (fun _ a => a ∈ lw_tbl) 1 b s Gz_3286 := And.intro uz_1971 uz_0
theorem uGz_3287 (b s : Nat) : xall (fun _ a => a ∈ lw_tbl) 2 b s Gz_3287 := And.intro (uGz_3285 b (2 * s)) (uGz_3286 (b + s) (2 * s))
theorem uGz_3288 (b s : Nat) : xall (fun _ a => a ∈ lw_tbl) 3 b s Gz_3288 := And.intro (uGz_3284 b (2 * s)) (uGz_3287 (b + s) (2 * s))
theorem uGz_3289 (b s : Nat) : xall (fun _ a => a ∈ lw_tbl) 4 b s Gz_3289 := And.intro (uGz_3281 b (2 * s)) (uGz_3288 (b + s) (2 * s))
theorem uGz_3290 (b s : Nat) : xall (fun _ a => a ∈ lw_tbl) 5 b s Gz_3290 := And.intro (uGz_3274 b (2 * s)) (uGz_3289 (b + s) (2 * s))
theorem uGz_3291 (b s : Nat) : xall (fun _ a => a ∈ lw_tbl) 1 b s Gz_3291 := And.intro uz_115 uz_2163
theorem uGz_3292 (b s : Nat) : xall (fun _ a => a ∈ lw_tbl) 1 b s Gz_3292 := And.intro uz_1139 uz_0
theorem uGz_3293 (b s : Nat) : xall (fun _ a => a ∈ lw_tbl) 2 b s Gz_3293 := And.intro (uGz_3291 b (2 * s)) (uGz_3292 (b + s) (2 * s))
theorem uGz_3294 (b s : Nat) : xall (fun _ a => a ∈ lw_tbl) 1 b s Gz_3294 := And.intro uz_627 uz_0
theorem uGz_3295 (b s : Nat) : xall (fun _ a => a ∈ lw_tbl) 1 b s Gz_3295 := And.intro uz_1651 uz_0
theorem uGz_3296 (b s : Nat) : xall (fun _ a => a ∈ lw_tbl) 2 b s Gz_3296 := And.intro (uGz_3294 b (2 * s)) (uGz_3295 (b + s) (2 * s))
theorem uGz_3297 (b s : Nat) : xall (fun _ a => a ∈ lw_tbl) 3 b s Gz_3297 := And.intro (uGz_3293 b (2 * s)) (uGz_3296 (b + s) (2 * s))
theorem uGz_3298 (b s : Nat) : xall (fun _ a => a ∈ lw_tbl) 1 b s Gz_3298 := And.intro uz_371 uz_0
theorem uGz_3299 (b s : Nat) : xall (fun _ a => a ∈ lw_tbl) 1 b s Gz_3299 := And.intro uz_1395 uz_0
theorem uGz_3300 (b s : Nat) : xall (fun _ a => a ∈ lw_tbl) 2 b s Gz_3300 := And.intro (uGz_3298 b (2 * s)) (uGz_3299 (b + s) (2 * s))
theorem uGz_3301 (b s : Nat) : xall (fun _ a => a ∈ lw_tbl) 1 b s Gz_3301 := And.intro uz_883 uz_0
theorem uGz_3302 (b s : Nat) : xall (fun _ a => a ∈ lw_tbl) 1 b s Gz_3302 := And.intro uz_1907 uz_0
theorem uGz_3303 (b s : Nat) : xall (fun _ a => a ∈ lw_tbl) 2 b s Gz_3303 := And.intro (uGz_3301 b (2 * s)) (uGz_3302 (b + s) (2 * s))
theorem uGz_3304 (b s : Nat) : xall (fun _ a => a ∈ lw_tbl) 3 b s Gz_3304 := And.intro (uGz_3300 b (2 * s)) (uGz_3303 (b + s) (2 * s))
theorem uGz_3305 (b s : Nat) : xall (fun _ a => a ∈ lw_tbl) 4 b s Gz_3305 := And.intro (uGz_3297 b (2 * s)) (uGz_3304 (b + s) (2 * s))
theorem uGz_3306 (b s : Nat) : xall (fun _ a => a ∈ lw_tbl) 1 b s Gz_3306 := And.intro uz_243 uz_0
theorem uGz_3307 (b s : Nat) : xall (fun _ a => a ∈ lw_tbl) 1 b s Gz_3307 := And.intro uz_1267 uz_0
theorem uGz_3308 (b s : Nat) : xall (fun _ a => a ∈ lw_tbl) 2 b s Gz_3308 := And.intro (uGz_3306 b (2 * s)) (uGz_3307 (b + s) (2 * s))
theorem uGz_3309 (b s : Nat) : xall (fun _ a => a ∈ lw_tbl) 1 b s Gz_3309 := And.intro uz_755 uz_0
theorem uGz_3310 (b s : Nat) : xall (fun _ a => a ∈ lw_tbl) 1 b s Gz_3310 := And.intro uz_1779 uz_0
theorem uGz_3311 (b s : Nat) : xall (fun _ a => a ∈ lw_tbl) 2 b s Gz_3311 := And.intro (uGz_3309 b (2 * s)) (uGz_3310 (b + s) (2 * s))
theorem uGz_3312 (b s : Nat) : xall (fun _ a => a ∈ lw_tbl) 3 b s Gz_3312 := And.intro (uGz_3308 b (2 * s)) (uGz_3311 (b + s) (2 * s))
theorem uGz_3313 (b s : Nat) : xall (fun _ a => a ∈ lw_tbl) 1 b s Gz_3313 := And.intro uz_499 uz_0
theorem uGz_3314 (b s : Nat) : xall (fun _ a => a ∈ lw_tbl) 1 b s Gz_3314 := And.intro uz_1523 uz_0
theorem uGz_3315 (b s : Nat) : xall (fun _ a => a ∈ lw_tbl) 2 b s Gz_3315 := And.intro (uGz_3313 b (2 * s)) (uGz_3314 (b + s) (2 * s))
theorem uGz_3316 (b s : Nat) : xall (fun _ a => a ∈ lw_tbl) 1 b s Gz_3316 := And.intro uz_1011 uz_0
theorem uGz_3317 (b s : Nat) : xall (fun _ a => a ∈ lw_tbl) 1 b s Gz_3317 := And.intro uz_2035 uz_0
theorem uGz_3318 (b s : Nat) : xall (fun _ a => a ∈ lw_tbl) 2 b s Gz_3318 := And.intro (uGz_3316 b (2 * s)) (uGz_3317 (b + s) (2 * s))
theorem uGz_3319 (b s : Nat) : xall (fun _ a => a ∈ lw_tbl) 3 b s Gz_3319 := And.intro (uGz_3315 b (2 * s)) (uGz_3318 (b + s) (2 * s))
theorem uGz_3320 (b s : Nat) : xall (fun _ a => a ∈ lw_tbl) 4 b s Gz_3320 := And.intro (uGz_3312 b (2 * s)) (uGz_3319 (b + s) (2 * s))
theorem uGz_3321 (b s : Nat) : xall (fun _ a => a ∈ lw_tbl) 5 b s Gz_3321 := And.intro (uGz_3305 b (2 * s)) (uGz_3320 (b + s) (2 * s))
theorem uGz_3322 (b s : Nat) : xall (fun _ a => a ∈ lw_tbl) 6 b s Gz_3322 := And.intro (uGz_3290 b (2 * s)) (uGz_3321 (b + s) (2 * s))
theorem uGz_3323 (b s : Nat) : xall (fun _ a => a ∈ lw_tbl) 7 b s Gz_3323 := And.intro (uGz_3259 b (2 * s)) (uGz_3322 (b + s) (2 * s))
theorem uGz_3324 (b s : Nat) : xall (fun _ a => a ∈ lw_tbl) 8 b s Gz_3324 := And.intro (uGz_3196 b (2 * s)) (uGz_3323 (b + s) (2 * s))
theorem uGz_3325 (b s : Nat) : xall (fun _ a => a ∈ lw_tbl) 1 b s Gz_3325 := And.intro uz_11 uz_2059
theorem uGz_3326 (b s : Nat) : xall (fun _ a => a ∈ lw_tbl) 1 b s Gz_3326 := And.intro uz_1035 uz_0
theorem uGz_3327 (b s : Nat) : xall (fun _ a => a ∈ lw_tbl) 2 b s Gz_3327 := And.intro (uGz_3325 b (2 * s)) (uGz_3326 (b + s) (2 * s))
theorem uGz_3328 (b s : Nat) : xall (fun _ a => a ∈ lw_tbl) 1 b s Gz_3328 := And.intro uz_523 uz_0
theorem uGz_3329 (b s : Nat) : xall (fun _ a => a ∈ lw_tbl) 1 b s Gz_3329 := And.intro uz_1547 uz_0
theorem uGz_3330 (b s : Nat) : xall (fun _ a => a ∈ lw_tbl) 2 b s Gz_3330 := And.intro (uGz_3328 b (2 * s)) (uGz_3329 (b + s) (2 * s))
theorem uGz_3331 (b s : Nat) : xall (fun _ a => a ∈ lw_tbl) 3 b s Gz_3331 := And.intro (uGz_3327 b (2 * s)) (uGz_3330 (b + s) (2 * s))
theorem uGz_3332 (b s : Nat) : xall (fun _ a => a ∈ lw_tbl) 1 b s Gz_3332 := And.intro uz_267 uz_0
theorem uGz_3333 (b s : Nat) : xall (fun _ a => a ∈ lw_tbl) 1 b s Gz_3333 := And.intro uz_1291 uz_0
theorem uGz_3334 (b s : Nat) : xall (fun _ a => a ∈ lw_tbl) 2 b s Gz_3334 := And.intro (uGz_3332 b (2 * s)) (uGz_3333 (b + s) (2 * s))
theorem uGz_3335 (b s : Nat) : xall (fun _ a => a ∈ lw_tbl) 1 b s Gz_3335 := And.intro uz_779 uz_0
theorem uGz_3336 (b s : Nat) : xall (fun _ a => a ∈ lw_tbl) 1 b s Gz_3336 := And.intro uz_1803 uz_0
theorem uGz_3337 (b s : Nat) : xall (fun _ a => a ∈ lw_tbl) 2 b s Gz_3337 := And.intro (uGz_3335 b (2 * s)) (uGz_3336 (b + s) (2 * s))
theorem uGz_3338 (b s : Nat) : xall (fun _ a => a ∈ lw_tbl) 3 b s Gz_3338 := And.intro (uGz_3334 b (2 * s)) (uGz_3337 (b + s) (2 * s))
theorem uGz_3339 (b s : Nat) : xall (fun _ a => a ∈ lw_tbl) 4 b s Gz_3339 := And.intro (uGz_3331 b (2 * s)) (uGz_3338 (b + s) (2 * s))
theorem uGz_3340 (b s : Nat) : xall (fun _ a => a ∈ lw_tbl) 1 b s Gz_3340 := And.intro uz_139 uz_2187
theorem uGz_3341 (b s : Nat) : xall (fun _ a => a ∈ lw_tbl) 1 b s Gz_3341 := And.intro uz_1163 uz_0
theorem uGz_3342 (b s : Nat) : xall (fun _ a => a ∈ lw_tbl) 2 b s Gz_3342 := And.intro (uGz_3340 b (2 * s)) (uGz_3341 (b + s) (2 * s))
theorem uGz_3343 (b s : Nat) : xall (fun _ a => a ∈ lw_tbl) 1 b s Gz_3343 := And.intro uz_651 uz_0
theorem uGz_3344 (b s : Nat) : xall (fun _ a => a ∈ lw_tbl) 1 b s Gz_3344 := And.intro uz_1675 uz_0
theorem uGz_3345 (b s : Nat) : xall (fun _ a => a ∈ lw_tbl) 2 b s Gz_3345 := And.intro (uGz_3343 b (2 * s)) (uGz_3344 (b + s) (2 * s))
theorem uGz_3346 (b s : Nat) : xall (fun _ a => a ∈ lw_tbl) 3 b s Gz_3346 := And.intro (uGz_3342 b (2 * s)) (uGz_3345 (b + s) (2 * s))
theorem uGz_3347 (b s : Nat) : xall (fun _ a => a ∈ lw_tbl) 1 b s Gz_3347 := And.intro uz_395 uz_0
theorem uGz_3348 (b s : Nat) : xall (fun _ a => a ∈ lw_tbl) 1 b s Gz_3348 := And.intro uz_1419 uz_0
theorem uGz_3349 (b s : Nat) : xall (fun _ a => a ∈ lw_tbl) 2 b s Gz_3349 := And.intro (uGz_3347 b (2 * s)) (uGz_3348 (b + s) (2 * s))
theorem uGz_3350 (b s : Nat) : xall (fun _ a => a ∈ lw_tbl) 1 b s Gz_3350 := And.intro uz_907 uz_0
theorem uGz_3351 (b s : Nat) : xall (fun _ a => a ∈ lw_tbl) 1 b s Gz_3351 := And.intro uz_1931 uz_0
theorem uGz_3352 (b s : Nat) : xall (fun _ a => a ∈ lw_tbl) 2 b s Gz_3352 := And.intro (uGz_3350 b (2 * s)) (uGz_3351 (b + s) (2 * s))
theorem uGz_3353 (b s : Nat) : xall (fun _ a => a ∈ lw_tbl) 3 b s Gz_3353 := And.intro (uGz_3349 b (2 * s)) (uGz_3352 (b + s) (2 * s))
theorem uGz_3354 (b s : Nat) : xall (fun _ a => a ∈ lw_tbl) 4 b s Gz_3354 := And.intro (uGz_3346 b (2 * s)) (uGz_3353 (b + s) (2 * s))
theorem uGz_3355 (b s : Nat) : xall (fun _ a => a ∈ lw_tbl) 5 b s Gz_3355 := And.intro (uGz_3339 b (2 * s)) (uGz_3354 (b + s) (2 * s))
theorem uGz_3356 (b s : Nat) : xall (fun _ a => a ∈ lw_tbl) 1 b s Gz_3356 := And.intro uz_75 uz_2123
theorem uGz_3357 (b s : Nat) : xall (fun _ a => a ∈ lw_tbl) 1 b s Gz_3357 := And.intro uz_1099 uz_0
theorem uGz_3358 (b s : Nat) : xall (fun _ a => a ∈ lw_tbl) 2 b s Gz_3358 := And.intro (uGz_3356 b (2 * s)) (uGz_3357 (b + s) (2 * s))
theorem uGz_3359 (b s : Nat) : xall (fun _ a => a ∈ lw_tbl) 1 b s Gz_3359 := And.intro uz_587 uz_0
theorem uGz_3360 (b s : Nat) : xall (fun _ a => a ∈ lw_tbl) 1 b s Gz_3360 := And.intro uz_1611 uz_0
theorem uGz_3361 (b s : Nat) : xall (fun _ a => a ∈ lw_tbl) 2 b s Gz_3361 := And.intro (uGz_3359 b (2 * s)) (uGz_3360 (b + s) (2 * s))
theorem uGz_3362 (b s : Nat) : xall (fun _ a => a ∈ lw_tbl) 3 b s Gz_3362 := And.intro (uGz_3358 b (2 * s)) (uGz_3361 (b + s) (2 * s))
theorem uGz_3363 (b s : Nat) : xall (fun _ a => a ∈ lw_tbl) 1 b s Gz_3363 := And.intro uz_331 uz_0
theorem uGz_3364 (b s : Nat) : xall (fun _ a => a ∈ lw_tbl) 1 b s Gz_3364 := And.intro uz_1355 uz_0
theorem uGz_3365 (b s : Nat) : xall (fun _ a => a ∈ lw_tbl) 2 b s Gz_3365 := And.intro (uGz_3363 b (2 * s)) (uGz_3364 (b + s) (2 * s))
theorem uGz_3366 (b s : Nat) : xall (fun _ a => a ∈ lw_tbl) 1 b s Gz_3366 := And.intro uz_843 uz_0
theorem uGz_3367 (b s : Nat) : xall (fun _ a => a ∈ lw_tbl) 1 b s Gz_3367 := And.intro uz_1867 uz_0
theorem uGz_3368 (b s : Nat) : xall (fun _ a => a ∈ lw_tbl) 2 b s Gz_3368 := And.intro (uGz_3366 b (2 * s)) (uGz_3367 (b + s) (2 * s))
theorem uGz_3369 (b s : Nat) : xall (fun _ a => a ∈ lw_tbl) 3 b s Gz_3369 := And.intro (uGz_3365 b (2 * s)) (uGz_3368 (b + s) (2 * s))
theorem uGz_3370 (b s : Nat) : xall (fun _ a => a ∈ lw_tbl) 4 b s Gz_3370 := And.intro (uGz_3362 b (2 * s)) (uGz_3369 (b + s) (2 * s))
theorem uGz_3371 (b s : Nat) : xall (fun _ a => a ∈ lw_tbl) 1 b s Gz_3371 := And.intro uz_203 uz_2251
theorem uGz_3372 (b s : Nat) : xall (fun _ a => a ∈ lw_tbl) 1 b s Gz_3372 := And.intro uz_1227 uz_0
theorem uGz_3373 (b s : Nat) : xall (fun _ a => a ∈ lw_tbl) 2 b s Gz_3373 := And.intro (uGz_3371 b (2 * s)) (uGz_3372 (b + s) (2 * s))
theorem uGz_3374 (b s : Nat) : xall (fun _ a => a ∈ lw_tbl) 1 b s Gz_3374 := And.intro uz_715 uz_0
theorem uGz_3375 (b s : Nat) : xall (fun _ a => a ∈ lw_tbl) 1 b s Gz_3375 := And.intro uz_1739 uz_0
theorem uGz_3376 (b s : Nat) : xall (fun _ a => a ∈ lw_tbl) 2 b s Gz_3376 := And.intro (uGz_3374 b (2 * s)) (uGz_3375 (b + s) (2 * s))
theorem uGz_3377 (b s : Nat) : xall (fun _ a => a ∈ lw_tbl) 3 b s Gz_3377 := And.intro (uGz_3373 b (2 * s)) (uGz_3376 (b + s) (2 * s))
theorem uGz_3378 (b s : Nat) : xall (fun _ a => a ∈ lw_tbl) 1 b s Gz_3378 := And.intro uz_459 uz_0
theorem uGz_3379 (b s : Nat) : xall (fun _ a => a ∈ lw_tbl) 1 b s Gz_3379 := And.intro uz_1483 uz_0
theorem uGz_3380 (b s : Nat) : xall (fun _ a => a ∈ lw_tbl) 2 b s Gz_3380 := And.intro (uGz_3378 b (2 * s)) (uGz_3379 (b + s) (2 * s))
theorem uGz_3381 (b s : Nat) : xall (fun _ a => a ∈ lw_tbl) 1 b s Gz_3381 := And.intro uz_971 uz_0
theorem uGz_3382 (b s : Nat) : xall (fun _ a => a ∈ lw_tbl) 1 b s Gz_3382 := And.intro uz_1995 uz_0
theorem uGz_3383 (b s : Nat) : xall (fun _ a => a ∈ lw_tbl) 2 b s Gz_3383 := And.intro (uGz_3381 b (2 * s)) (uGz_3382 (b + s) (2 * s))
theorem uGz_3384 (b s : Nat) : xall (fun _ a => a ∈ lw_tbl) 3 b s Gz_3384 := And.intro (uGz_3380 b (2 * s)) (uGz_3383 (b + s) (2 * s))
theorem uGz_3385 (b s : Nat) : xall (fun _ a => a ∈ lw_tbl) 4 b s Gz_3385 := And.intro (uGz_3377 b (2 * s)) (uGz_3384 (b + s) (2 * s))
theorem uGz_3386 (b s : Nat) : xall (fun _ a => a ∈ lw_tbl) 5 b s Gz_3386 := And.intro (uGz_3370 b (2 * s)) (uGz_3385 (b + s) (2 * s))
theorem uGz_3387 (b s : Nat) : xall (fun _ a => a ∈ lw_tbl) 6 b s Gz_3387 := And.intro (uGz_3355 b (2 * s)) (uGz_3386 (b + s) (2 * s))
theorem uGz_3388 (b s : Nat) : xall (fun _ a => a ∈ lw_tbl) 1 b s Gz_3388 := And.intro uz_43 uz_2091
theorem uGz_3389 (b s : Nat) : xall (fun _ a => a ∈ lw_tbl) 1 b s Gz_3389 := And.intro uz_1067 uz_0
theorem uGz_3390 (b s : Nat) : xall (fun _ a => a ∈ lw_tbl) 2 b s Gz_3390 := And.intro (uGz_3388 b (2 * s)) (uGz_3389 (b + s) (2 * s))
theorem uGz_3391 (b s : Nat) : xall (fun _ a => a ∈ lw_tbl) 1 b s Gz_3391 := And.intro uz_555 uz_0
theorem uGz_3392 (b s : Nat) : xall (fun _ a => a ∈ lw_tbl) 1 b s Gz_3392 := And.intro uz_1579 uz_0
theorem uGz_3393 (b s : Nat) : xall (fun _ a => a ∈ lw_tbl) 2 b s Gz_3393 := And.intro (uGz_3391 b (2 * s)) (uGz_3392 (b + s) (2 * s))
theorem uGz_3394 (b s : Nat) : xall (fun _ a => a ∈ lw_tbl) 3 b s Gz_3394 := And.intro (uGz_3390 b (2 * s)) (uGz_3393 (b + s) (2 * s))
theorem uGz_3395 (b s : Nat) : xall (fun _ a => a ∈ lw_tbl) 1 b s Gz_3395 := And.intro uz_299 uz_0
theorem uGz_3396 (b s : Nat) : xall (fun _ a => a ∈ lw_tbl) 1 b s Gz_3396 := And.intro uz_1323 uz_0
theorem uGz_3397 (b s : Nat) : xall (fun _ a => a ∈ lw_tbl) 2 b s Gz_3397 := And.intro (uGz_3395 b (2 * s)) (uGz_3396 (b + s) (2 * s))
theorem uGz_3398 (b s : Nat) : xall (fun _ a => a ∈ lw_tbl) 1 b s Gz_3398 := And.intro uz_811 uz_0
theorem uGz_3399 (b s : Nat) : xall (fun _ a => a ∈ lw_tbl) 1 b s Gz_3399 := And.intro uz_1835 uz_0
theorem uGz_3400 (b s : Nat) : xall (fun _ a => a ∈ lw_tbl) 2 b s Gz_3400 := And.intro (uGz_3398 b (2 * s)) (uGz_3399 (b + s) (2 * s))
theorem uGz_3401 (b s : Nat) : xall (fun _ a => a ∈ lw_tbl) 3 b s Gz_3401 := And.intro (uGz_3397 b (2 * s)) (uGz_3400 (b + s) (2 * s))
theorem uGz_3402 (b s : Nat) : xall (fun _ a => a ∈ lw_tbl) 4 b s Gz_3402 := And.intro (uGz_3394 b (2 * s)) (uGz_3401 (b + s) (2 * s))
theorem uGz_3403 (b s : Nat) : xall (fun _ a => a ∈ lw_tbl) 1 b s Gz_3403 := And.intro uz_171 uz_2219
theorem uGz_3404 (b s : Nat) : xall (fun _ a => a ∈ lw_tbl) 1 b s Gz_3404 := And.intro uz_1195 uz_0
theorem uGz_3405 (b s : Nat) : xall (fun _ a => a ∈ lw_tbl) 2 b s Gz_3405 := And.intro (uGz_3403 b (2 * s)) (uGz_3404 (b + s) (2 * s))
theorem uGz_3406 (b s : Nat) : xall (fun _ a => a ∈ lw_tbl) 1 b s Gz_3406 := And.intro uz_683 uz_0
theorem uGz_3407 (b s : Nat) : xall (fun _ a => a ∈ lw_tbl) 1 b s Gz_3407 := And.intro uz_1707 uz_0
theorem uGz_3408 (b s : Nat) : xall (fun _ a => a ∈ lw_tbl) 2 b s Gz_3408 := And.intro (uGz_3406 b (2 * s)) (uGz_3407 (b + s) (2 * s))
theorem uGz_3409 (b s : Nat) : xall (fun _ a => a ∈ lw_tbl) 3 b s Gz_3409 := And.intro (uGz_3405 b (2 * s)) (uGz_3408 (b + s) (2 * s))
theorem uGz_3410 (b s : Nat) : xall (fun _ a => a ∈ lw_tbl) 1 b s Gz_3410 := And.intro uz_427 uz_0
theorem uGz_3411 (b s : Nat) : xall (fun _ a => a ∈ lw_tbl) 1 b s Gz_3411 := And.intro uz_1451 uz_0
theorem uGz_3412 (b s : Nat) : xall (fun _ a => a ∈ lw_tbl) 2 b s Gz_3412 := And.intro (uGz_3410 b (2 * s)) (uGz_3411 (b + s) (2 * s))
theorem uGz_3413 (b s : Nat) : xall (fun _ a => a ∈ lw_tbl) 1 b s Gz_3413 := And.intro uz_939 uz_0
theorem uGz_3414 (b s : Nat) : xall (fun _ a => a ∈ lw_tbl) 1 b s Gz_3414 := And.intro uz_1963 uz_0
theorem uGz_3415 (b s : Nat) : xall (fun _ a => a ∈ lw_tbl) 2 b s Gz_3415 := And.intro (uGz_3413 b (2 * s)) (uGz_3414 (b + s) (2 * s))
theorem uGz_3416 (b s : Nat) : xall (fun _ a => a ∈ lw_tbl) 3 b s Gz_3416 := And.intro (uGz_3412 b (2 * s)) (uGz_3415 (b + s) (2 * s))
theorem uGz_3417 (b s : Nat) : xall (fun _ a => a ∈ lw_tbl) 4 b s Gz_3417 := And.intro (uGz_3409 b (2 * s)) (uGz_3416 (b + s) (2 * s))
theorem uGz_3418 (b s : Nat) : xall (fun _ a => a ∈ lw_tbl) 5 b s Gz_3418 := And.intro (uGz_3402 b (2 * s)) (uGz_3417 (b + s) (2 * s))
theorem uGz_3419 (b s : Nat) : xall (fun _ a => a ∈ lw_tbl) 1 b s Gz_3419 := And.intro uz_107 uz_2155
theorem uGz_3420 (b s : Nat) : xall (fun _ a => a ∈ lw_tbl) 1 b s Gz_3420 := And.intro uz_1131 uz_0
theorem uGz_3421 (b s : Nat) : xall (fun _ a => a ∈ lw_tbl) 2 b s Gz_3421 := And.intro (uGz_3419 b (2 * s)) (uGz_3420 (b + s) (2 * s))
theorem uGz_3422 (b s : Nat) : xall (fun _ a => a ∈ lw_tbl) 1 b s Gz_3422 := And.intro uz_619 uz_0
theorem uGz_3423 (b s : Nat) : xall (fun _ a => a ∈ lw_tbl) 1 b s Gz_3423 := And.intro uz_1643 uz_0
theorem uGz_3424 (b s : Nat) : xall (fun _ a => a ∈ lw_tbl) 2 b s Gz_3424 := And.intro (uGz_3422 b (2 * s)) (uGz_3423 (b + s) (2 * s))
theorem uGz_3425 (b s : Nat) : xall (fun _ a => a ∈ lw_tbl) 3 b s Gz_3425 := And.intro (uGz_3421 b (2 * s)) (uGz_3424 (b + s) (2 * s))
theorem uGz_3426 (b s : Nat) : xall (fun _ a => a ∈ lw_tbl) 1 b s Gz_3426 := And.intro uz_363 uz_0
theorem uGz_3427 (b s : Nat) : xall (fun _ a => a ∈ lw_tbl) 1 b s Gz_3427 := And.intro uz_1387 uz_0
theorem uGz_3428 (b s : Nat) : xall (fun _ a => a ∈ lw_tbl) 2 b s Gz_3428 := And.intro (uGz_3426 b (2 * s)) (uGz_3427 (b + s) (2 * s))
theorem uGz_3429 (b s : Nat) : xall (fun _ a => a ∈ lw_tbl) 1 b s Gz_3429 := And.intro uz_875 uz_0
theorem uGz_3430 (b s : Nat) : xall (fun _ a => a ∈ lw_tbl) 1 b s Gz_3430 := And.intro uz_1899 uz_0
theorem uGz_3431 (b s : Nat) : xall (fun _ a => a ∈ lw_tbl) 2 b s Gz_3431 := And.intro (uGz_3429 b (2 * s)) (uGz_3430 (b + s) (2 * s))
theorem uGz_3432 (b s : Nat) : xall (fun _ a => a ∈ lw_tbl) 3 b s Gz_3432 := And.intro (uGz_3428 b (2 * s)) (uGz_3431 (b + s) (2 * s))
theorem uGz_3433 (b s : Nat) : xall (fun _ a => a ∈ lw_tbl) 4 b s Gz_3433 := And.intro (uGz_3425 b (2 * s)) (uGz_3432 (b + s) (2 * s))
theorem uGz_3434 (b s : Nat) : xall (fun _ a => a ∈ lw_tbl) 1 b s Gz_3434 := And.intro uz_235 uz_0
theorem uGz_3435 (b s : Nat) : xall (fun _ a => a ∈ lw_tbl) 1 b s Gz_3435 := And.intro uz_1259 uz_0
theorem uGz_3436 (b s : Nat) : xall (fun _ a => a ∈ lw_tbl) 2 b s Gz_3436 := And.intro (uGz_3434 b (2 * s)) (uGz_3435 (b + s) (2 * s))
theorem uGz_3437 (b s : Nat) : xall (fun _ a => a ∈ lw_tbl) 1 b s Gz_3437 := And.intro uz_747 uz_0
theorem uGz_3438 (b s : Nat) : xall (fun _ a => a ∈ lw_tbl) 1 b s Gz_3438 := And.intro uz_1771 uz_0
theorem uGz_3439 (b s : Nat) : xall (fun _ a => a ∈ lw_tbl) 2 b s Gz_3439 := And.intro (uGz_3437 b (2 * s)) (uGz_3438 (b + s) (2 * s))
theorem uGz_3440 (b s : Nat) : xall (fun _ a => a ∈ lw_tbl) 3 b s Gz_3440 := And.intro (uGz_3436 b (2 * s)) (uGz_3439 (b + s) (2 * s))
theorem uGz_3441 (b s : Nat) : xall (fun _ a => a ∈ lw_tbl) 1 b s Gz_3441 := And.intro uz_491 uz_0
theorem uGz_3442 (b s : Nat) : xall (fun _ a => a ∈ lw_tbl) 1 b s Gz_3442 := And.intro uz_1515 uz_0
theorem uGz_3443 (b s : Nat) : xall (fun _ a => a ∈ lw_tbl) 2 b s Gz_3443 := And.intro (uGz_3441 b (2 * s)) (uGz_3442 (b + s) (2 * s))
theorem uGz_3444 (b s : Nat) : xall (fun _ a => a ∈ lw_tbl) 1 b s Gz_3444 := And.intro uz_1003 uz_0
theorem uGz_3445 (b s : Nat) : xall (fun _ a => a ∈ lw_tbl) 1 b s Gz_3445 := And.intro uz_2027 uz_0
theorem uGz_3446 (b s : Nat) : xall (fun _ a => a ∈ lw_tbl) 2 b s Gz_3446 := And.intro (uGz_3444 b (2 * s)) (uGz_3445 (b + s) (2 * s))
theorem uGz_3447 (b s : Nat) : xall (fun _ a => a ∈ lw_tbl) 3 b s Gz_3447 := And.intro (uGz_3443 b (2 * s)) (uGz_3446 (b + s) (2 * s))
theorem uGz_3448 (b s : Nat) : xall (fun _ a => a ∈ lw_tbl) 4 b s Gz_3448 := And.intro (uGz_3440 b (2 * s)) (uGz_3447 (b + s) (2 * s))
theorem uGz_3449 (b s : Nat) : xall (fun _ a => a ∈ lw_tbl) 5 b s Gz_3449 := And.intro (uGz_3433 b (2 * s)) (uGz_3448 (b + s) (2 * s))
theorem uGz_3450 (b s : Nat) : xall (fun _ a => a ∈ lw_tbl) 6 b s Gz_3450 := And.intro (uGz_3418 b (2 * s)) (uGz_3449 (b + s) (2 * s))
theorem uGz_3451 (b s : Nat) : xall (fun _ a => a ∈ lw_tbl) 7 b s Gz_3451 := And.intro (uGz_3387 b (2 * s)) (uGz_3450 (b + s) (2 * s))
theorem uGz_3452 (b s : Nat) : xall (fun _ a => a ∈ lw_tbl) 1 b s Gz_3452 := And.intro uz_27 uz_2075
theorem uGz_3453 (b s : Nat) : xall (fun _ a => a ∈ lw_tbl) 1 b s Gz_3453 := And.intro uz_1051 uz_0
theorem uGz_3454 (b s : Nat) : xall (fun _ a => a ∈ lw_tbl) 2 b s Gz_3454 := And.intro (uGz_3452 b (2 * s)) (uGz_3453 (b + s) (2 * s))
theorem uGz_3455 (b s : Nat) : xall (fun _ a => a ∈ lw_tbl) 1 b s Gz_3455 := And.intro uz_539 uz_0
theorem uGz_3456 (b s : Nat) : xall (fun _ a => a ∈ lw_tbl) 1 b s Gz_3456 := And.intro uz_1563 uz_0
theorem uGz_3457 (b s : Nat) : xall (fun _ a => a ∈ lw_tbl) 2 b s Gz_3457 := And.intro (uGz_3455 b (2 * s)) (uGz_3456 (b + s) (2 * s))
theorem uGz_3458 (b s : Nat) : xall (fun _ a => a ∈ lw_tbl) 3 b s Gz_3458 := And.intro (uGz_3454 b (2 * s)) (uGz_3457 (b + s) (2 * s))
theorem uGz_3459 (b s : Nat) : xall (fun _ a => a ∈ lw_tbl) 1 b s Gz_3459 := And.intro uz_283 uz_0
theorem uGz_3460 (b s : Nat) : xall (fun _ a => a ∈ lw_tbl) 1 b s Gz_3460 := And.intro uz_1307 uz_0
theorem uGz_3461 (b s : Nat) : xall (fun _ a => a ∈ lw_tbl) 2 b s Gz_3461 := And.intro (uGz_3459 b (2 * s)) (uGz_3460 (b + s) (2 * s))
theorem uGz_3462 (b s : Nat) : xall (fun _ a => a ∈ lw_tbl) 1 b s Gz_3462 := And.intro uz_795 uz_0
theorem uGz_3463 (b s : Nat) : xall (fun _ a => a ∈ lw_tbl) 1 b s Gz_3463 := And.intro uz_1819 uz_0
theorem uGz_3464 (b s : Nat) : xall (fun _ a => a ∈ lw_tbl) 2 b s Gz_3464 := And.intro (uGz_3462 b (2 * s)) (uGz_3463 (b + s) (2 * s))
theorem uGz_3465 (b s : Nat) : xall (fun _ a => a ∈ lw_tbl) 3 b s Gz_3465 := And.intro (uGz_3461 b (2 * s)) (uGz_3464 (b + s) (2 * s))
theorem uGz_3466 (b s : Nat) : xall (fun _ a => a ∈ lw_tbl) 4 b s Gz_3466 := And.intro (uGz_3458 b (2 * s)) (uGz_3465 (b + s) (2 * s))
theorem uGz_3467 (b s : Nat) : xall (fun _ a => a ∈ lw_tbl) 1 b s Gz_3467 := And.intro uz_155 uz_2203
theorem uGz_3468 (b s : Nat) : xall (fun _ a => a ∈ lw_tbl) 1 b s Gz_3468 := And.intro uz_1179 uz_0
theorem uGz_3469 (b s : Nat) : xall (fun _ a => a ∈ lw_tbl) 2 b s Gz_3469 := And.intro (uGz_3467 b (2 * s)) (uGz_3468 (b + s) (2 * s))
theorem uGz_3470 (b s : Nat) : xall (fun _ a => a ∈ lw_tbl) 1 b s Gz_3470 := And.intro uz_667 uz_0
theorem uGz_3471 (b s : Nat) : xall (fun _ a => a ∈ lw_tbl) 1 b s Gz_3471 := And.intro uz_1691 uz_0
theorem uGz_3472 (b s : Nat) : xall (fun _ a => a ∈ lw_tbl) 2 b s Gz_3472 := And.intro (uGz_3470 b (2 * s)) (uGz_3471 (b + s) (2 * s))
theorem uGz_3473 (b s : Nat) : xall (fun _ a => a ∈ lw_tbl) 3 b s Gz_3473 := And.intro (uGz_3469 b (2 * s)) (uGz_3472 (b + s) (2 * s))
theorem uGz_3474 (b s : Nat) : xall (fun _ a => a ∈ lw_tbl) 1 b s Gz_3474 := And.intro uz_411 uz_0
theorem uGz_3475 (b s : Nat) : xall (fun _ a => a ∈ lw_tbl) 1 b s Gz_3475 := And.intro uz_1435 uz_0
theorem uGz_3476 (b s : Nat) : xall (fun _ a => a ∈ lw_tbl) 2 b s Gz_3476 := And.intro (uGz_3474 b (2 * s)) (uGz_3475 (b + s) (2 * s))
theorem uGz_3477 (b s : Nat) : xall (fun _ a => a ∈ lw_tbl) 1 b s Gz_3477 := And.intro uz_923 uz_0
theorem uGz_3478 (b s : Nat) : xall (fun _ a => a ∈ lw_tbl) 1 b s Gz_3478 := And.intro uz_1947 uz_0
theorem uGz_3479 (b s : Nat) : xall (fun _ a => a ∈ lw_tbl) 2 b s Gz_3479 := And.intro (uGz_3477 b (2 * s)) (uGz_3478 (b + s) (2 * s))
theorem uGz_3480 (b s : Nat) : xall (fun _ a => a ∈ lw_tbl) 3 b s Gz_3480 := And.intro (uGz_3476 b (2 * s)) (uGz_3479 (b + s) (2 * s))
theorem uGz_3481 (b s : Nat) : xall (fun _ a => a ∈ lw_tbl) 4 b s Gz_3481 := And.intro (uGz_3473 b (2 * s)) (uGz_3480 (b + s) (2 * s))
theorem uGz_3482 (b s : Nat) : xall (fun _ a => a ∈ lw_tbl) 5 b s Gz_3482 := And.intro (uGz_3466 b (2 * s)) (uGz_3481 (b + s) (2 * s))
theorem uGz_3483 (b s : Nat) : xall (fun _ a => a ∈ lw_tbl) 1 b s Gz_3483 := And.intro uz_91 uz_2139
theorem uGz_3484 (b s : Nat) : xall (fun _ a => a ∈ lw_tbl) 1 b s Gz_3484 := And.intro uz_1115 uz_0
theorem uGz_3485 (b s : Nat) : xall (fun _ a => a ∈ lw_tbl) 2 b s Gz_3485 := And.intro (uGz_3483 b (2 * s)) (uGz_3484 (b + s) (2 * s))
theorem uGz_3486 (b s : Nat) : xall (fun _ a => a ∈ lw_tbl) 1 b s Gz_3486 := And.intro uz_603 uz_0
theorem uGz_3487 (b s : Nat) : xall (fun _ a => a ∈ lw_tbl) 1 b s Gz_3487 := And.intro uz_1627 uz_0
theorem uGz_3488 (b s : Nat) : xall (fun _ a => a ∈ lw_tbl) 2 b s Gz_3488 := And.intro (uGz_3486 b (2 * s)) (uGz_3487 (b + s) (2 * s))
theorem uGz_3489 (b s : Nat) : xall (fun _ a => a ∈ lw_tbl) 3 b s Gz_3489 := And.intro (uGz_3485 b (2 * s)) (uGz_3488 (b + s) (2 * s))
theorem uGz_3490 (b s : Nat) : xall (fun _ a => a ∈ lw_tbl) 1 b s Gz_3490 := And.intro uz_347 uz_0
theorem uGz_3491 (b s : Nat) : xall (fun _ a => a ∈ lw_tbl) 1 b s Gz_3491 := And.intro uz_1371 uz_0
theorem uGz_3492 (b s : Nat) : xall (fun _ a => a ∈ lw_tbl) 2 b s Gz_3492 := And.intro (uGz_3490 b (2 * s)) (uGz_3491 (b + s) (2 * s))
theorem uGz_3493 (b s : Nat) : xall (fun _ a => a ∈ lw_tbl) 1 b s Gz_3493 := And.intro uz_859 uz_0
theorem uGz_3494 (b s : Nat) : xall (fun _ a => a ∈ lw_tbl) 1 b s Gz_3494 := And.intro uz_1883 uz_0
theorem uGz_3495 (b s : Nat) : xall (fun _ a => a ∈ lw_tbl) 2 b s Gz_3495 := And.intro (uGz_3493 b (2 * s)) (uGz_3494 (b + s) (2 * s))
theorem uGz_3496 (b s : Nat) : xall (fun _ a => a ∈ lw_tbl) 3 b s Gz_3496 := And.intro (uGz_3492 b (2 * s)) (uGz_3495 (b + s) (2 * s))
theorem uGz_3497 (b s : Nat) : xall (fun _ a => a ∈ lw_tbl) 4 b s Gz_3497 := And.intro (uGz_3489 b (2 * s)) (uGz_3496 (b + s) (2 * s))
theorem uGz_3498 (b s : Nat) : xall (fun _ a => a ∈ lw_tbl) 1 b s Gz_3498 := And.intro uz_219 uz_0
theorem uGz_3499 (b s : Nat) : xall (fun _ a => a ∈ lw_tbl) 1 b s Gz_3499 := And.intro uz_1243 uz_0
theorem uGz_3500 (b s : Nat) : xall (fun _ a => a ∈ lw_tbl) 2 b s Gz_3500 := And.intro (uGz_3498 b (2 * s)) (uGz_3499 (b + s) (2 * s))
theorem uGz_3501 (b s : Nat) : xall (fun _ a => a ∈ lw_tbl) 1 b s Gz_3501 := And.intro uz_731 uz_0
theorem uGz_3502 (b s : Nat) : xall (fun _ a => a ∈ lw_tbl) 1 b s Gz_3502 := And.intro uz_1755 uz_0
theorem uGz_3503 (b s : Nat) : xall (fun _ a => a ∈ lw_tbl) 2 b s Gz_3503 := And.intro (uGz_3501 b (2 * s)) (uGz_3502 (b + s) (2 * s))
theorem uGz_3504 (b s : Nat) : xall (fun _ a => a ∈ lw_tbl) 3 b s Gz_3504 := And.intro (uGz_3500 b (2 * s)) (uGz_3503 (b + s) (2 * s))
theorem uGz_3505 (b s : Nat) : xall (fun _ a => a ∈ lw_tbl) 1 b s Gz_3505 := And.intro uz_475 uz_0
theorem uGz_3506 (b s : Nat) : xall (fun _ a => a ∈ lw_tbl) 1 b s Gz_3506 := And.intro uz_1499 uz_0
theorem uGz_3507 (b s : Nat) : xall (fun _ a => a ∈ lw_tbl) 2 b s Gz_3507 := And.intro (uGz_3505 b (2 * s)) (uGz_3506 (b + s) (2 * s))
theorem uGz_3508 (b s : Nat) : xall (fun _ a => a ∈ lw_tbl) 1 b s Gz_3508 := And.intro uz_987 uz_0
theorem uGz_3509 (b s : Nat) : xall (fun _ a => a ∈ lw_tbl) 1 b s Gz_3509 := And.intro uz_2011 uz_0
theorem uGz_3510 (b s : Nat) : xall (fun _ a => a ∈ lw_tbl) 2 b s Gz_3510 := And.intro (uGz_3508 b (2 * s)) (uGz_3509 (b + s) (2 * s))
theorem uGz_3511 (b s : Nat) : xall (fun _ a => a ∈ lw_tbl) 3 b s Gz_3511 := And.intro (uGz_3507 b (2 * s)) (uGz_3510 (b + s) (2 * s))
theorem uGz_3512 (b s : Nat) : xall (fun _ a => a ∈ lw_tbl) 4 b s Gz_3512 := And.intro (uGz_3504 b (2 * s)) (uGz_3511 (b + s) (2 * s))
theorem uGz_3513 (b s : Nat) : xall (fun _ a => a ∈ lw_tbl) 5 b s Gz_3513 := And.intro (uGz_3497 b (2 * s)) (uGz_3512 (b + s) (2 * s))
theorem uGz_3514 (b s : Nat) : xall (fun _ a => a ∈ lw_tbl) 6 b s Gz_3514 := And.intro (uGz_3482 b (2 * s)) (uGz_3513 (b + s) (2 * s))
theorem uGz_3515 (b s : Nat) : xall (fun _ a => a ∈ lw_tbl) 1 b s Gz_3515 := And.intro uz_59 uz_2107
theorem uGz_3516 (b s : Nat) : xall (fun _ a => a ∈ lw_tbl) 1 b s Gz_3516 := And.intro uz_1083 uz_0
theorem uGz_3517 (b s : Nat) : xall (fun _ a => a ∈ lw_tbl) 2 b s Gz_3517 := And.intro (uGz_3515 b (2 * s)) (uGz_3516 (b + s) (2 * s))
theorem uGz_3518 (b s : Nat) : xall (fun _ a => a ∈ lw_tbl) 1 b s Gz_3518 := And.intro uz_571 uz_0
theorem uGz_3519 (b s : Nat) : xall (fun _ a => a ∈ lw_tbl) 1 b s Gz_3519 := And.intro uz_1595 uz_0
theorem uGz_3520 (b s : Nat) : xall (fun _ a => a ∈ lw_tbl) 2 b s Gz_3520 := And.intro (uGz_3518 b (2 * s)) (uGz_3519 (b + s) (2 * s))
theorem uGz_3521 (b s : Nat) : xall (fun _ a => a ∈ lw_tbl) 3 b s Gz_3521 := And.intro (uGz_3517 b (2 * s)) (uGz_3520 (b + s) (2 * s))
theorem uGz_3522 (b s : Nat) : xall (fun _ a => a ∈ lw_tbl) 1 b s Gz_3522 := And.intro uz_315 uz_0
theorem uGz_3523 (b s : Nat) : xall (fun _ a => a ∈ lw_tbl) 1 b s Gz_3523 := And.intro uz_1339 uz_0
theorem uGz_3524 (b s : Nat) : xall (fun _ a => a ∈ lw_tbl) 2 b s Gz_3524 := And.intro (uGz_3522 b (2 * s)) (uGz_3523 (b + s) (2 * s))
theorem uGz_3525 (b s : Nat) : xall (fun _ a => a ∈ lw_tbl) 1 b s Gz_3525 := And.intro uz_827 uz_0
theorem uGz_3526 (b s : Nat) : xall (fun _ a => a ∈ lw_tbl) 1 b s Gz_3526 := And.intro uz_1851 uz_0
theorem uGz_3527 (b s : Nat) : xall (fun _ a => a ∈ lw_tbl) 2 b s Gz_3527 := And.intro (uGz_3525 b (2 * s)) (uGz_3526 (b + s) (2 * s))
theorem uGz_3528 (b s : Nat) : xall (fun _ a => a ∈ lw_tbl) 3 b s Gz_3528 := And.intro (uGz_3524 b (2 * s)) (uGz_3527 (b + s) (2 * s))
theorem uGz_3529 (b s : Nat) : xall (fun _ a => a ∈ lw_tbl) 4 b s Gz_3529 := And.intro (uGz_3521 b (2 * s)) (uGz_3528 (b + s) (2 * s))
theorem uGz_3530 (b s : Nat) : xall (fun _ a => a ∈ lw_tbl) 1 b s Gz_3530 := And.intro uz_187 uz_2235
theorem uGz_3531 (b s : Nat) : xall (fun _ a => a ∈ lw_tbl) 1 b s Gz_3531 := And.intro uz_1211 uz_0
theorem uGz_3532 (b s : Nat) : xall (fun _ a => a ∈ lw_tbl) 2 b s Gz_3532 := And.intro (uGz_3530 b (2 * s)) (uGz_3531 (b + s) (2 * s))
theorem uGz_3533 (b s : Nat) : xall (fun _ a => a ∈ lw_tbl) 1 b s Gz_3533 := And.intro uz_699 uz_0
theorem uGz_3534 (b s : Nat) : xall (fun _ a => a ∈ lw_tbl) 1 b s Gz_3534 := And.intro uz_1723 uz_0
theorem uGz_3535 (b s : Nat) : xall (fun _ a => a ∈ lw_tbl) 2 b s Gz_3535 := And.intro (uGz_3533 b (2 * s)) (uGz_3534 (b + s) (2 * s))
theorem uGz_3536 (b s : Nat) : xall (fun _ a => a ∈ lw_tbl) 3 b s Gz_3536 := And.intro (uGz_3532 b (2 * s)) (uGz_3535 (b + s) (2 * s))
theorem uGz_3537 (b s : Nat) : xall (fun _ a => a ∈ lw_tbl) 1 b s Gz_3537 := And.intro uz_443 uz_0
theorem uGz_3538 (b s : Nat) : xall (fun _ a => a ∈ lw_tbl) 1 b s Gz_3538 := And.intro uz_1467 uz_0
theorem uGz_3539 (b s : Nat) : xall (fun _ a => a ∈ lw_tbl) 2 b s Gz_3539 := And.intro (uGz_3537 b (2 * s)) (uGz_3538 (b + s) (2 * s))
theorem uGz_3540 (b s : Nat) : xall (fun _ a => a ∈ lw_tbl) 1 b s Gz_3540 := And.intro uz_955 uz_0
theorem uGz_3541 (b s : Nat) : xall (fun _ a => a ∈ lw_tbl) 1 b s Gz_3541 := And.intro uz_1979 uz_0
theorem uGz_3542 (b s : Nat) : xall (fun _ a => a ∈ lw_tbl) 2 b s Gz_3542 := And.intro (uGz_3540 b (2 * s)) (uGz_3541 (b + s) (2 * s))
theorem uGz_3543 (b s : Nat) : xall (fun _ a => a ∈ lw_tbl) 3 b s Gz_3543 := And.intro (uGz_3539 b (2 * s)) (uGz_3542 (b + s) (2 * s))
theorem uGz_3544 (b s : Nat) : xall (fun _ a => a ∈ lw_tbl) 4 b s Gz_3544 := And.intro (uGz_3536 b (2 * s)) (uGz_3543 (b + s) (2 * s))
theorem uGz_3545 (b s : Nat) : xall (fun _ a => a ∈ lw_tbl) 5 b s Gz_3545 := And.intro (uGz_3529 b (2 * s)) (uGz_3544 (b + s) (2 * s))
theorem uGz_3546 (b s : Nat) : xall (fun _ a => a ∈ lw_tbl) 1 b s Gz_3546 := And.intro uz_123 uz_2171
theorem uGz_3547 (b s : Nat) : xall (fun _ a => a ∈ lw_tbl) 1 b s Gz_3547 := And.intro uz_1147 uz_0
theorem uGz_3548 (b s : Nat) : xall (fun _ a => a ∈ lw_tbl) 2 b s Gz_3548 := And.intro (uGz_3546 b (2 * s)) (uGz_3547 (b + s) (2 * s))
theorem uGz_3549 (b s : Nat) : xall (fun _ a => a ∈ lw_tbl) 1 b s Gz_3549 := And.intro uz_635 uz_0
theorem uGz_3550 (b s : Nat) : xall (fun _ a => a ∈ lw_tbl) 1 b s Gz_3550 := And.intro uz_1659 uz_0
theorem uGz_3551 (b s : Nat) : xall (fun _ a => a ∈ lw_tbl) 2 b s Gz_3551 := And.intro (uGz_3549 b (2 * s)) (uGz_3550 (b + s) (2 * s))
theorem uGz_3552 (b s : Nat) : xall (fun _ a => a ∈ lw_tbl) 3 b s Gz_3552 := And.intro (uGz_3548 b (2 * s)) (uGz_3551 (b + s) (2 * s))
theorem uGz_3553 (b s : Nat) : xall (fun _ a => a ∈ lw_tbl) 1 b s Gz_3553 := And.intro uz_379 uz_0
theorem uGz_3554 (b s : Nat) : xall (fun _ a => a ∈ lw_tbl) 1 b s Gz_3554 := And.intro uz_1403 uz_0
theorem uGz_3555 (b s : Nat) : xall (fun _ a => a ∈ lw_tbl) 2 b s Gz_3555 := And.intro (uGz_3553 b (2 * s)) (uGz_3554 (b + s) (2 * s))
theorem uGz_3556 (b s : Nat) : xall (fun _ a => a ∈ lw_tbl) 1 b s Gz_3556 := And.intro uz_891 uz_0
theorem uGz_3557 (b s : Nat) : xall (fun _ a => a ∈ lw_tbl) 1 b s Gz_3557 := And.intro uz_1915 uz_0
theorem uGz_3558 (b s : Nat) : xall (fun _ a => a ∈ lw_tbl) 2 b s Gz_3558 := And.intro (uGz_3556 b (2 * s)) (uGz_3557 (b + s) (2 * s))
theorem uGz_3559 (b s : Nat) : xall (fun _ a => a ∈ lw_tbl) 3 b s Gz_3559 := And.intro (uGz_3555 b (2 * s)) (uGz_3558 (b + s) (2 * s))
theorem uGz_3560 (b s : Nat) : xall (fun _ a => a ∈ lw_tbl) 4 b s Gz_3560 := And.intro (uGz_3552 b (2 * s)) (uGz_3559 (b + s) (2 * s))
theorem uGz_3561 (b s : Nat) : xall (fun _ a => a ∈ lw_tbl) 1 b s Gz_3561 := And.intro uz_251 uz_0
theorem uGz_3562 (b s : Nat) : xall (fun _ a => a ∈ lw_tbl) 1 b s Gz_3562 := And.intro uz_1275 uz_0
theorem uGz_3563 (b s : Nat) : xall (fun _ a => a ∈ lw_tbl) 2 b s Gz_3563 := And.intro (uGz_3561 b (2 * s)) (uGz_3562 (b + s) (2 * s))
theorem uGz_3564 (b s : Nat) : xall (fun _ a => a ∈ lw_tbl) 1 b s Gz_3564 := And.intro uz_763 uz_0
theorem uGz_3565 (b s : Nat) : xall (fun _ a => a ∈ lw_tbl) 1 b s Gz_3565 := And.intro uz_1787 uz_0
theorem uGz_3566 (b s : Nat) : xall (fun _ a => a ∈ lw_tbl) 2 b s Gz_3566 := And.intro (uGz_3564 b (2 * s)) (uGz_3565 (b + s) (2 * s))
theorem uGz_3567 (b s : Nat) : xall (fun _ a => a ∈ lw_tbl) 3 b s Gz_3567 := And.intro (uGz_3563 b (2 * s)) (uGz_3566 (b + s) (2 * s))
theorem uGz_3568 (b s : Nat) : xall (fun _ a => a ∈ lw_tbl) 1 b s Gz_3568 := And.intro uz_507 uz_0
theorem uGz_3569 (b s : Nat) : xall (fun _ a => a ∈ lw_tbl) 1 b s Gz_3569 := And.intro uz_1531 uz_0
theorem uGz_3570 (b s : Nat) : xall (fun _ a => a ∈ lw_tbl) 2 b s Gz_3570 := And.intro (uGz_3568 b (2 * s)) (uGz_3569 (b + s) (2 * s))
theorem uGz_3571 (b s : Nat) : xall (fun _ a => a ∈ lw_tbl) 1 b s Gz_3571 := And.intro uz_1019 uz_0
theorem uGz_3572 (b s : Nat) : xall (fun _ a => a ∈ lw_tbl) 1 b s Gz_3572 := And.intro uz_2043 uz_0
theorem uGz_3573 (b s : Nat) : xall (fun _ a => a ∈ lw_tbl) 2 b s Gz_3573 := And.intro (uGz_3571 b (2 * s)) (uGz_3572 (b + s) (2 * s))
theorem uGz_3574 (b s : Nat) : xall (fun _ a => a ∈ lw_tbl) 3 b s Gz_3574 := And.intro (uGz_3570 b (2 * s)) (uGz_3573 (b + s) (2 * s))
theorem uGz_3575 (b s : Nat) : xall (fun _ a => a ∈ lw_tbl) 4 b s Gz_3575 := And.intro (uGz_3567 b (2 * s)) (uGz_3574 (b + s) (2 * s))
theorem uGz_3576 (b s : Nat) : xall (fun _ a => a ∈ lw_tbl) 5 b s Gz_3576 := And.intro (uGz_3560 b (2 * s)) (uGz_3575 (b + s) (2 * s))
theorem uGz_3577 (b s : Nat) : xall (fun _ a => a ∈ lw_tbl) 6 b s Gz_3577 := And.intro (uGz_3545 b (2 * s)) (uGz_3576 (b + s) (2 * s))
theorem uGz_3578 (b s : Nat) : xall (fun _ a => a ∈ lw_tbl) 7 b s Gz_3578 := And.intro (uGz_3514 b (2 * s)) (uGz_3577 (b + s) (2 * s))
theorem uGz_3579 (b s : Nat) : xall (fun _ a => a ∈ lw_tbl) 8 b s Gz_3579 := And.intro (uGz_3451 b (2 * s)) (uGz_3578 (b + s) (2 * s))
theorem uGz_3580 (b s : Nat) : xall (fun _ a => a ∈ lw_tbl) 9 b s Gz_3580 := And.intro (uGz_3324 b (2 * s)) (uGz_3579 (b + s) (2 * s))
theorem uGz_3581 (b s : Nat) : xall (fun _ a => a ∈ lw_tbl) 1 b s Gz_3581 := And.intro uz_7 uz_2055
theorem uGz_3582 (b s : Nat) : xall (fun _ a => a ∈ lw_tbl) 1 b s Gz_3582 := And.intro uz_1031 uz_0
theorem uGz_3583 (b s : Nat) : xall (fun _ a => a ∈ lw_tbl) 2 b s Gz_3583 := And.intro (uGz_3581 b (2 * s)) (uGz_3582 (b + s) (2 * s))
theorem uGz_3584 (b s : Nat) : xall (fun _ a => a ∈ lw_tbl) 1 b s Gz_3584 := And.intro uz_519 uz_0
theorem uGz_3585 (b s : Nat) : xall (fun _ a => a ∈ lw_tbl) 1 b s Gz_3585 := And.intro uz_1543 uz_0
theorem uGz_3586 (b s : Nat) : xall (fun _ a => a ∈ lw_tbl) 2 b s Gz_3586 := And.intro (uGz_3584 b (2 * s)) (uGz_3585 (b + s) (2 * s))
theorem uGz_3587 (b s : Nat) : xall (fun _ a => a ∈ lw_tbl) 3 b s Gz_3587 := And.intro (uGz_3583 b (2 * s)) (uGz_3586 (b + s) (2 * s))
theorem uGz_3588 (b s : Nat) : xall (fun _ a => a ∈ lw_tbl) 1 b s Gz_3588 := And.intro uz_263 uz_0
theorem uGz_3589 (b s : Nat) : xall (fun _ a => a ∈ lw_tbl) 1 b s Gz_3589 := And.intro uz_1287 uz_0
theorem uGz_3590 (b s : Nat) : xall (fun _ a => a ∈ lw_tbl) 2 b s Gz_3590 := And.intro (uGz_3588 b (2 * s)) (uGz_3589 (b + s) (2 * s))
theorem uGz_3591 (b s : Nat) : xall (fun _ a => a ∈ lw_tbl) 1 b s Gz_3591 := And.intro uz_775 uz_0
theorem uGz_3592 (b s : Nat) : xall (fun _ a => a ∈ lw_tbl) 1 b s Gz_3592 := And.intro uz_1799 uz_0
theorem uGz_3593 (b s : Nat) : xall (fun _ a => a ∈ lw_tbl) 2 b s Gz_3593 := And.intro (uGz_3591 b (2 * s)) (uGz_3592 (b + s) (2 * s))
theorem uGz_3594 (b s : Nat) : xall (fun _ a => a ∈ lw_tbl) 3 b s Gz_3594 := And.intro (uGz_3590 b (2 * s)) (uGz_3593 (b + s) (2 * s))
theorem uGz_3595 (b s : Nat) : xall (fun _ a => a ∈ lw_tbl) 4 b s Gz_3595 := And.intro (uGz_3587 b (2 * s)) (uGz_3594 (b + s) (2 * s))
theorem uGz_3596 (b s : Nat) : xall (fun _ a => a ∈ lw_tbl) 1 b s Gz_3596 := And.intro uz_135 uz_2183
theorem uGz_3597 (b s : Nat) : xall (fun _ a => a ∈ lw_tbl) 1 b s Gz_3597 := And.intro uz_1159 uz_0
theorem uGz_3598 (b s : Nat) : xall (fun _ a => a ∈ lw_tbl) 2 b s Gz_3598 := And.intro (uGz_3596 b (2 * s)) (uGz_3597 (b + s) (2 * s))
theorem uGz_3599 (b s : Nat) : xall (fun _ a => a ∈ lw_tbl) 1 b s Gz_3599 := And.intro uz_647 uz_0
theorem uGz_3600 (b s : Nat) : xall (fun _ a => a ∈ lw_tbl) 1 b s Gz_3600 := And.intro uz_1671 uz_0
theorem uGz_3601 (b s : Nat) : xall (fun _ a => a ∈ lw_tbl) 2 b s Gz_3601 := And.intro (uGz_3599 b (2 * s)) (uGz_3600 (b + s) (2 * s))
theorem uGz_3602 (b s : Nat) : xall (fun _ a => a ∈ lw_tbl) 3 b s Gz_3602 := And.intro (uGz_3598 b (2 * s)) (uGz_3601 (b + s) (2 * s))
theorem uGz_3603 (b s : Nat) : xall (fun _ a => a ∈ lw_tbl) 1 b s Gz_3603 := And.intro uz_391 uz_0
theorem uGz_3604 (b s : Nat) : xall (fun _ a => a ∈ lw_tbl) 1 b s Gz_3604 := And.intro uz_1415 uz_0
theorem uGz_3605 (b s : Nat) : xall (fun _ a => a ∈ lw_tbl) 2 b s Gz_3605 := And.intro (uGz_3603 b (2 * s)) (uGz_3604 (b + s) (2 * s))
theorem uGz_3606 (b s : Nat) : xall (fun _ a => a ∈ lw_tbl) 1 b s Gz_3606 := And.intro uz_903 uz_0
theorem uGz_3607 (b s : Nat) : xall (fun _ a => a ∈ lw_tbl) 1 b s Gz_3607 := And.intro uz_1927 uz_0
theorem uGz_3608 (b s : Nat) : xall (fun _ a => a ∈ lw_tbl) 2 b s Gz_3608 := And.intro (uGz_3606 b (2 * s)) (uGz_3607 (b + s) (2 * s))
theorem uGz_3609 (b s : Nat) : xall (fun _ a => a ∈ lw_tbl) 3 b s Gz_3609 := And.intro (uGz_3605 b (2 * s)) (uGz_3608 (b + s) (2 * s))
theorem uGz_3610 (b s : Nat) : xall (fun _ a => a ∈ lw_tbl) 4 b s Gz_3610 := And.intro (uGz_3602 b (2 * s)) (uGz_3609 (b + s) (2 * s))
theorem uGz_3611 (b s : Nat) : xall (fun _ a => a ∈ lw_tbl) 5 b s Gz_3611 := And.intro (uGz_3595 b (2 * s)) (uGz_3610 (b + s) (2 * s))
theorem uGz_3612 (b s : Nat) : xall (fun _ a => a ∈ lw_tbl) 1 b s Gz_3612 := And.intro uz_71 uz_2119
theorem uGz_3613 (b s : Nat) : xall (fun _ a => a ∈ lw_tbl) 1 b s Gz_3613 := And.intro uz_1095 uz_0
theorem uGz_3614 (b s : Nat) : xall (fun _ a => a ∈ lw_tbl) 2 b s Gz_3614 := And.intro (uGz_3612 b (2 * s)) (uGz_3613 (b + s) (2 * s))
theorem uGz_3615 (b s : Nat) : xall (fun _ a => a ∈ lw_tbl) 1 b s Gz_3615 := And.intro uz_583 uz_0
theorem uGz_3616 (b s : Nat) : xall (fun _ a => a ∈ lw_tbl) 1 b s Gz_3616 := And.intro uz_1607 uz_0
theorem uGz_3617 (b s : Nat) : xall (fun _ a => a ∈ lw_tbl) 2 b s Gz_3617 := And.intro (uGz_3615 b (2 * s)) (uGz_3616 (b + s) (2 * s))
theorem uGz_3618 (b s : Nat) : xall (fun _ a => a ∈ lw_tbl) 3 b s Gz_3618 := And.intro (uGz_3614 b (2 * s)) (uGz_3617 (b + s) (2 * s))
theorem uGz_3619 (b s : Nat) : xall (fun _ a => a ∈ lw_tbl) 1 b s Gz_3619 := And.intro uz_327 uz_0
theorem uGz_3620 (b s : Nat) : xall (fun _ a => a ∈ lw_tbl) 1 b s Gz_3620 := And.intro uz_1351 uz_0
theorem uGz_3621 (b s : Nat) : xall (fun _ a => a ∈ lw_tbl) 2 b s Gz_3621 := And.intro (uGz_3619 b (2 * s)) (uGz_3620 (b + s) (2 * s))
theorem uGz_3622 (b s : Nat) : xall (fun _ a => a ∈ lw_tbl) 1 b s Gz_3622 := And.intro uz_839 uz_0
theorem uGz_3623 (b s : Nat) : xall (fun _ a => a ∈ lw_tbl) 1 b s Gz_3623 := And.intro uz_1863 uz_0
theorem uGz_3624 (b s : Nat) : xall (fun _ a => a ∈ lw_tbl) 2 b s Gz_3624 := And.intro (uGz_3622 b (2 * s)) (uGz_3623 (b + s) (2 * s))
theorem uGz_3625 (b s : Nat) : xall (fun _ a => a ∈ lw_tbl) 3 b s Gz_3625 := And.intro (uGz_3621 b (2 * s)) (uGz_3624 (b + s) (2 * s))
theorem uGz_3626 (b s : Nat) : xall (fun _ a => a ∈ lw_tbl) 4 b s Gz_3626 := And.intro (uGz_3618 b (2 * s)) (uGz_3625 (b + s) (2 * s))
theorem uGz_3627 (b s : Nat) : xall (fun _ a => a ∈ lw_tbl) 1 b s Gz_3627 := And.intro uz_199 uz_2247
theorem uGz_3628 (b s : Nat) : xall (fun _ a => a ∈ lw_tbl) 1 b s Gz_3628 := And.intro uz_1223 uz_0
theorem uGz_3629 (b s : Nat) : xall (fun _ a => a ∈ lw_tbl) 2 b s Gz_3629 := And.intro (uGz_3627 b (2 * s)) (uGz_3628 (b + s) (2 * s))
theorem uGz_3630 (b s : Nat) : xall (fun _ a => a ∈ lw_tbl) 1 b s Gz_3630 := And.intro uz_711 uz_0
theorem uGz_3631 (b s : Nat) : xall (fun _ a => a ∈ lw_tbl) 1 b s Gz_3631 := And.intro uz_1735 uz_0
theorem uGz_3632 (b s : Nat) : xall (fun _ a => a ∈ lw_tbl) 2 b s Gz_3632 := And.intro (uGz_3630 b (2 * s)) (uGz_3631 (b + s) (2 * s))
theorem uGz_3633 (b s : Nat) : xall (fun _ a => a ∈ lw_tbl) 3 b s Gz_3633 := And.intro (uGz_3629 b (2 * s)) (uGz_3632 (b + s) (2 * s))
theorem uGz_3634 (b s : Nat) : xall (fun _ a => a ∈ lw_tbl) 1 b s Gz_3634 := And.intro uz_455 uz_0
theorem uGz_3635 (b s : Nat) : xall (fun _ a => a ∈ lw_tbl) 1 b s Gz_3635 := And.intro uz_1479 uz_0
theorem uGz_3636 (b s : Nat) : xall (fun _ a => a ∈ lw_tbl) 2 b s Gz_3636 := And.intro (uGz_3634 b (2 * s)) (uGz_3635 (b + s) (2 * s))
theorem uGz_3637 (b s : Nat) : xall (fun _ a => a ∈ lw_tbl) 1 b s Gz_3637 := And.intro uz_967 uz_0
theorem uGz_3638 (b s : Nat) : xall (fun _ a => a ∈ lw_tbl) 1 b s Gz_3638 := And.intro uz_1991 uz_0
theorem uGz_3639 (b s : Nat) : xall (fun _ a => a ∈ lw_tbl) 2 b s Gz_3639 := And.intro (uGz_3637 b (2 * s)) (uGz_3638 (b + s) (2 * s))
theorem uGz_3640 (b s : Nat) : xall (fun _ a => a ∈ lw_tbl) 3 b s Gz_3640 := And.intro (uGz_3636 b (2 * s)) (uGz_3639 (b + s) (2 * s))
theorem uGz_3641 (b s : Nat) : xall (fun _ a => a ∈ lw_tbl) 4 b s Gz_3641 := And.intro (uGz_3633 b (2 * s)) (uGz_3640 (b + s) (2 * s))
theorem uGz_3642 (b s : Nat) : xall (fun _ a => a ∈ lw_tbl) 5 b s Gz_3642 := And.intro (uGz_3626 b (2 * s)) (uGz_3641 (b + s) (2 * s))
theorem uGz_3643 (b s : Nat) : xall (fun _ a => a ∈ lw_tbl) 6 b s Gz_3643 := And.intro (uGz_3611 b (2 * s)) (uGz_3642 (b + s) (2 * s))
theorem uGz_3644 (b s : Nat) : xall (fun _ a => a ∈ lw_tbl) 1 b s Gz_3644 := And.intro uz_39 uz_2087
theorem uGz_3645 (b s : Nat) : xall (fun _ a => a ∈ lw_tbl) 1 b s Gz_3645 := And.intro uz_1063 uz_0
theorem uGz_3646 (b s : Nat) : xall (fun _ a => a ∈ lw_tbl) 2 b s Gz_3646 := And.intro (uGz_3644 b (2 * s)) (uGz_3645 (b + s) (2 * s))
theorem uGz_3647 (b s : Nat) : xall (fun _ a => a ∈ lw_tbl) 1 b s Gz_3647 := And.intro uz_551 uz_0
theorem uGz_3648 (b s : Nat) : xall (fun _ a => a ∈ lw_tbl) 1 b s Gz_3648 := And.intro uz_1575 uz_0
theorem uGz_3649 (b s : Nat) : xall (fun _ a => a ∈ lw_tbl) 2 b s Gz_3649 := And.intro (uGz_3647 b (2 * s)) (uGz_3648 (b + s) (2 * s))
theorem uGz_3650 (b s : Nat) : xall (fun _ a => a ∈ lw_tbl) 3 b s Gz_3650 := And.intro (uGz_3646 b (2 * s)) (uGz_3649 (b + s) (2 * s))
theorem uGz_3651 (b s : Nat) : xall (fun _ a => a ∈ lw_tbl) 1 b s Gz_3651 := And.intro uz_295 uz_0
theorem uGz_3652 (b s : Nat) : xall (fun _ a => a ∈ lw_tbl) 1 b s Gz_3652 := And.intro uz_1319 uz_0
theorem uGz_3653 (b s : Nat) : xall (fun _ a => a ∈ lw_tbl) 2 b s Gz_3653 := And.intro (uGz_3651 b (2 * s)) (uGz_3652 (b + s) (2 * s))
theorem uGz_3654 (b s : Nat) : xall (fun _ a => a ∈ lw_tbl) 1 b s Gz_3654 := And.intro uz_807 uz_0
theorem uGz_3655 (b s : Nat) : xall (fun _ a => a ∈ lw_tbl) 1 b s Gz_3655 := And.intro uz_1831 uz_0
theorem uGz_3656 (b s : Nat) : xall (fun _ a => a ∈ lw_tbl) 2 b s Gz_3656 := And.intro (uGz_3654 b (2 * s)) (uGz_3655 (b + s) (2 * s))
theorem uGz_3657 (b s : Nat) : xall (fun _ a => a ∈ lw_tbl) 3 b s Gz_3657 := And.intro (uGz_3653 b (2 * s)) (uGz_3656 (b + s) (2 * s))
theorem uGz_3658 (b s : Nat) : xall (fun _ a => a ∈ lw_tbl) 4 b s Gz_3658 := And.intro (uGz_3650 b (2 * s)) (uGz_3657 (b + s) (2 * s))
theorem uGz_3659 (b s : Nat) : xall (fun _ a => a ∈ lw_tbl) 1 b s Gz_3659 := And.intro uz_167 uz_2215
theorem uGz_3660 (b s : Nat) : xall (fun _ a => a ∈ lw_tbl) 1 b s Gz_3660 := And.intro uz_1191 uz_0
theorem uGz_3661 (b s : Nat) : xall (fun _ a => a ∈ lw_tbl) 2 b s Gz_3661 := And.intro (uGz_3659 b (2 * s)) (uGz_3660 (b + s) (2 * s))
theorem uGz_3662 (b s : Nat) : xall (fun _ a => a ∈ lw_tbl) 1 b s Gz_3662 := And.intro uz_679 uz_0
theorem uGz_3663 (b s : Nat) : xall (fun _ a => a ∈ lw_tbl) 1 b s Gz_3663 := And.intro uz_1703 uz_0
theorem uGz_3664 (b s : Nat) : xall (fun _ a => a ∈ lw_tbl) 2 b s Gz_3664 := And.intro (uGz_3662 b (2 * s)) (uGz_3663 (b + s) (2 * s))
theorem uGz_3665 (b s : Nat) : xall (fun _ a => a ∈ lw_tbl) 3 b s Gz_3665 := And.intro (uGz_3661 b (2 * s)) (uGz_3664 (b + s) (2 * s))
theorem uGz_3666 (b s : Nat) : xall (fun _ a => a ∈ lw_tbl) 1 b s Gz_3666 := And.intro uz_423 uz_0
theorem uGz_3667 (b s : Nat) : xall (fun _ a => a ∈ lw_tbl) 1 b s Gz_3667 := And.intro uz_1447 uz_0
theorem uGz_3668 (b s : Nat) : xall (fun _ a => a ∈ lw_tbl) 2 b s Gz_3668 := And.intro (uGz_3666 b (2 * s)) (uGz_3667 (b + s) (2 * s))
theorem uGz_3669 (b s : Nat) : xall (fun _ a => a ∈ lw_tbl) 1 b s Gz_3669 := And.intro uz_935 uz_0
theorem uGz_3670 (b s : Nat) : xall (fun _ a => a ∈ lw_tbl) 1 b s Gz_3670 := And.intro uz_1959 uz_0
theorem uGz_3671 (b s : Nat) : xall (fun _ a => a ∈ lw_tbl) 2 b s Gz_3671 := And.intro (uGz_3669 b (2 * s)) (uGz_3670 (b + s) (2 * s))
theorem uGz_3672 (b s : Nat) : xall (fun _ a => a ∈ lw_tbl) 3 b s Gz_3672 := And.intro (uGz_3668 b (2 * s)) (uGz_3671 (b + s) (2 * s))
theorem uGz_3673 (b s : Nat) : xall (fun _ a => a ∈ lw_tbl) 4 b s Gz_3673 := And.intro (uGz_3665 b (2 * s)) (uGz_3672 (b + s) (2 * s))
theorem uGz_3674 (b s : Nat) : xall (fun _ a => a ∈ lw_tbl) 5 b s Gz_3674 := And.intro (uGz_3658 b (2 * s)) (uGz_3673 (b + s) (2 * s))
theorem uGz_3675 (b s : Nat) : xall (fun _ a => a ∈ lw_tbl) 1 b s Gz_3675 := And.intro uz_103 uz_2151
theorem uGz_3676 (b s : Nat) : xall (fun _ a => a ∈ lw_tbl) 1 b s Gz_3676 := And.intro uz_1127 uz_0
theorem uGz_3677 (b s : Nat) : xall (fun _ a => a ∈ lw_tbl) 2 b s Gz_3677 := And.intro (uGz_3675 b (2 * s)) (uGz_3676 (b + s) (2 * s))
theorem uGz_3678 (b s : Nat) : xall (fun _ a => a ∈ lw_tbl) 1 b s Gz_3678 := And.intro uz_615 uz_0
theorem uGz_3679 (b s : Nat) : xall (fun _ a => a ∈ lw_tbl) 1 b s Gz_3679 := And.intro uz_1639 uz_0
theorem uGz_3680 (b s : Nat) : xall (fun _ a => a ∈ lw_tbl) 2 b s Gz_3680 := And.intro (uGz_3678 b (2 * s)) (uGz_3679 (b + s) (2 * s))
theorem uGz_3681 (b s : Nat) : xall (fun _ a => a ∈ lw_tbl) 3 b s Gz_3681 := And.intro (uGz_3677 b (2 * s)) (uGz_3680 (b + s) (2 * s))
theorem uGz_3682 (b s : Nat) : xall (fun _ a => a ∈ lw_tbl) 1 b s Gz_3682 := And.intro uz_359 uz_0
theorem uGz_3683 (b s : Nat) : xall (fun _ a => a ∈ lw_tbl) 1 b s Gz_3683 := And.intro uz_1383 uz_0
theorem uGz_3684 (b s : Nat) : xall (fun _ a => a ∈ lw_tbl) 2 b s Gz_3684 := And.intro (uGz_3682 b (2 * s)) (uGz_3683 (b + s) (2 * s))
theorem uGz_3685 (b s : Nat) : xall (fun _ a => a ∈ lw_tbl) 1 b s Gz_3685 := And.intro uz_871 uz_0
theorem uGz_3686 (b s : Nat) : xall (fun _ a => a ∈ lw_tbl) 1 b s Gz_3686 := And.intro uz_1895 uz_0
theorem uGz_3687 (b s : Nat) : xall (fun _ a => a ∈ lw_tbl) 2 b s Gz_3687 := And.intro (uGz_3685 b (2 * s)) (uGz_3686 (b + s) (2 * s))
theorem uGz_3688 (b s : Nat) : xall (fun _ a => a ∈ lw_tbl) 3 b s Gz_3688 := And.intro (uGz_3684 b (2 * s)) (uGz_3687 (b + s) (2 * s))
theorem uGz_3689 (b s : Nat) : xall (fun _ a => a ∈ lw_tbl) 4 b s Gz_3689 := And.intro (uGz_3681 b (2 * s)) (uGz_3688 (b + s) (2 * s))
theorem uGz_3690 (b s : Nat) : xall (fun _ a => a ∈ lw_tbl) 1 b s Gz_3690 := And.intro uz_231 uz_0
theorem uGz_3691 (b s : Nat) : xall (fun _ a => a ∈ lw_tbl) 1 b s Gz_3691 := And.intro uz_1255 uz_0
theorem uGz_3692 (b s : Nat) : xall (fun _ a => a ∈ lw_tbl) 2 b s Gz_3692 := And.intro (uGz_3690 b (2 * s)) (uGz_3691 (b + s) (2 * s))
theorem uGz_3693 (b s : Nat) : xall (fun _ a => a ∈ lw_tbl) 1 b s Gz_3693 := And.intro uz_743 uz_0
theorem uGz_3694 (b s : Nat) : xall (fun _ a => a ∈ lw_tbl) 1 b s Gz_3694 := And.intro uz_1767 uz_0
theorem uGz_3695 (b s : Nat) : xall (fun _ a => a ∈ lw_tbl) 2 b s Gz_3695 := And.intro (uGz_3693 b (2 * s)) (uGz_3694 (b + s) (2 * s))
theorem uGz_3696 (b s : Nat) : xall (fun _ a => a ∈ lw_tbl) 3 b s Gz_3696 := And.intro (uGz_3692 b (2 * s)) (uGz_3695 (b + s) (2 * s))
theorem uGz_3697 (b s : Nat) : xall (fun _ a => a ∈ lw_tbl) 1 b s Gz_3697 := And.intro uz_487 uz_0
theorem uGz_3698 (b s : Nat) : xall (fun _ a => a ∈ lw_tbl) 1 b s Gz_3698 := And.intro uz_1511 uz_0
theorem uGz_3699 (b s : Nat) : xall (fun _ a => a ∈ lw_tbl) 2 b s Gz_3699 := And.intro (uGz_3697 b (2 * s)) (uGz_3698 (b + s) (2 * s))
theorem uGz_3700 (b s : Nat) : xall (fun _ a => a ∈ lw_tbl) 1 b s Gz_3700 := And.intro uz_999 uz_0
theorem uGz_3701 (b s : Nat) : xall (fun _ a => a ∈ lw_tbl) 1 b s Gz_3701 := And.intro uz_2023 uz_0
theorem uGz_3702 (b s : Nat) : xall (fun _ a => a ∈ lw_tbl) 2 b s Gz_3702 := And.intro (uGz_3700 b (2 * s)) (uGz_3701 (b + s) (2 * s))
theorem uGz_3703 (b s : Nat) : xall (fun _ a => a ∈ lw_tbl) 3 b s Gz_3703 := And.intro (uGz_3699 b (2 * s)) (uGz_3702 (b + s) (2 * s))
theorem uGz_3704 (b s : Nat) : xall (fun _ a => a ∈ lw_tbl) 4 b s Gz_3704 := And.intro (uGz_3696 b (2 * s)) (uGz_3703 (b + s) (2 * s))
theorem uGz_3705 (b s : Nat) : xall (fun _ a => a ∈ lw_tbl) 5 b s Gz_3705 := And.intro (uGz_3689 b (2 * s)) (uGz_3704 (b + s) (2 * s))
theorem uGz_3706 (b s : Nat) : xall (fun _ a => a ∈ lw_tbl) 6 b s Gz_3706 := And.intro (uGz_3674 b (2 * s)) (uGz_3705 (b + s) (2 * s))
theorem uGz_3707 (b s : Nat) : xall (fun _ a => a ∈ lw_tbl) 7 b s Gz_3707 := And.intro (uGz_3643 b (2 * s)) (uGz_3706 (b + s) (2 * s))
theorem uGz_3708 (b s : Nat) : xall (fun _ a => a ∈ lw_tbl) 1 b s Gz_3708 := And.intro uz_23 uz_2071
theorem uGz_3709 (b s : Nat) : xall (fun _ a => a ∈ lw_tbl) 1 b s Gz_3709 := And.intro uz_1047 uz_0
theorem uGz_3710 (b s : Nat) : xall (fun _ a => a ∈ lw_tbl) 2 b s Gz_3710 := And.intro (uGz_3708 b (2 * s)) (uGz_3709 (b + s) (2 * s))
theorem uGz_3711 (b s : Nat) : xall (fun _ a => a ∈ lw_tbl) 1 b s Gz_3711 := And.intro uz_535 uz_0
theorem uGz_3712 (b s : Nat) : xall (fun _ a => a ∈ lw_tbl) 1 b s Gz_3712 := And.intro uz_1559 uz_0
theorem uGz_3713 (b s : Nat) : xall (fun _ a => a ∈ lw_tbl) 2 b s Gz_3713 := And.intro (uGz_3711 b (2 * s)) (uGz_3712 (b + s) (2 * s))
theorem uGz_3714 (b s : Nat) : xall (fun _ a => a ∈ lw_tbl) 3 b s Gz_3714 := And.intro (uGz_3710 b (2 * s)) (uGz_3713 (b + s) (2 * s))
theorem uGz_3715 (b s : Nat) : xall (fun _ a => a ∈ lw_tbl) 1 b s Gz_3715 := And.intro uz_279 uz_0
theorem uGz_3716 (b s : Nat) : xall (fun _ a => a ∈ lw_tbl) 1 b s Gz_3716 := And.intro uz_1303 uz_0
theorem uGz_3717 (b s : Nat) : xall (fun _ a => a ∈ lw_tbl) 2 b s Gz_3717 := And.intro (uGz_3715 b (2 * s)) (uGz_3716 (b + s) (2 * s))
theorem uGz_3718 (b s : Nat) : xall (fun _ a => a ∈ lw_tbl) 1 b s Gz_3718 := And.intro uz_791 uz_0
theorem uGz_3719 (b s : Nat) : xall (fun _ a => a ∈ lw_tbl) 1 b s Gz_3719 := And.intro uz_1815 uz_0
theorem uGz_3720 (b s : Nat) : xall (fun _ a => a ∈ lw_tbl) 2 b s Gz_3720 := And.intro (uGz_3718 b (2 * s)) (uGz_3719 (b + s) (2 * s))
theorem uGz_3721 (b s : Nat) : xall (fun _ a => a ∈ lw_tbl) 3 b s Gz_3721 := And.intro (uGz_3717 b (2 * s)) (uGz_3720 (b + s) (2 * s))
theorem uGz_3722 (b s : Nat) : xall (fun _ a => a ∈ lw_tbl) 4 b s Gz_3722 := And.intro (uGz_3714 b (2 * s)) (uGz_3721 (b + s) (2 * s))
theorem uGz_3723 (b s : Nat) : xall (fun _ a => a ∈ lw_tbl) 1 b s Gz_3723 := And.intro uz_151 uz_2199
theorem uGz_3724 (b s : Nat) : xall (fun _ a => a ∈ lw_tbl) 1 b s Gz_3724 := And.intro uz_1175 uz_0
theorem uGz_3725 (b s : Nat) : xall (fun _ a => a ∈ lw_tbl) 2 b s Gz_3725 := And.intro (uGz_3723 b (2 * s)) (uGz_3724 (b + s) (2 * s))
theorem uGz_3726 (b s : Nat) : xall (fun _ a => a ∈ lw_tbl) 1 b s Gz_3726 := And.intro uz_663 uz_0
theorem uGz_3727 (b s : Nat) : xall (fun _ a => a ∈ lw_tbl) 1 b s Gz_3727 := And.intro uz_1687 uz_0
theorem uGz_3728 (b s : Nat) : xall (fun _ a => a ∈ lw_tbl) 2 b s Gz_3728 := And.intro (uGz_3726 b (2 * s)) (uGz_3727 (b + s) (2 * s))
theorem uGz_3729 (b s : Nat) : xall (fun _ a => a ∈ lw_tbl) 3 b s Gz_3729 := And.intro (uGz_3725 b (2 * s)) (uGz_3728 (b + s) (2 * s))
theorem uGz_3730 (b s : Nat) : xall (fun _ a => a ∈ lw_tbl) 1 b s Gz_3730 := And.intro uz_407 uz_0
theorem uGz_3731 (b s : Nat) : xall (fun _ a => a ∈ lw_tbl) 1 b s Gz_3731 := And.intro uz_1431 uz_0
theorem uGz_3732 (b s : Nat) : xall (fun _ a => a ∈ lw_tbl) 2 b s Gz_3732 := And.intro (uGz_3730 b (2 * s)) (uGz_3731 (b + s) (2 * s))
theorem uGz_3733 (b s : Nat) : xall (fun _ a => a ∈ lw_tbl) 1 b s Gz_3733 := And.intro uz_919 uz_0
theorem uGz_3734 (b s : Nat) : xall (fun _ a => a ∈ lw_tbl) 1 b s Gz_3734 := And.intro uz_1943 uz_0
theorem uGz_3735 (b s : Nat) : xall (fun _ a => a ∈ lw_tbl) 2 b s Gz_3735 := And.intro (uGz_3733 b (2 * s)) (uGz_3734 (b + s) (2 * s))
theorem uGz_3736 (b s : Nat) : xall (fun _ a => a ∈ lw_tbl) 3 b s Gz_3736 := And.intro (uGz_3732 b (2 * s)) (uGz_3735 (b + s) (2 * s))
theorem uGz_3737 (b s : Nat) : xall (fun _ a => a ∈ lw_tbl) 4 b s Gz_3737 := And.intro (uGz_3729 b (2 * s)) (uGz_3736 (b + s) (2 * s))
theorem uGz_3738 (b s : Nat) : xall (fun _ a => a ∈ lw_tbl) 5 b s Gz_3738 := And.intro (uGz_3722 b (2 * s)) (uGz_3737 (b + s) (2 * s))
theorem uGz_3739 (b s : Nat) : xall (fun _ a => a ∈ lw_tbl) 1 b s Gz_3739 := And.intro uz_87 uz_2135
theorem uGz_3740 (b s : Nat) : xall (fun _ a => a ∈ lw_tbl) 1 b s Gz_3740 := And.intro uz_1111 uz_0
theorem uGz_3741 (b s : Nat) : xall (fun _ a => a ∈ lw_tbl) 2 b s Gz_3741 := And.intro (uGz_3739 b (2 * s)) (uGz_3740 (b + s) (2 * s))
theorem uGz_3742 (b s : Nat) : xall (fun _ a => a ∈ lw_tbl) 1 b s Gz_3742 := And.intro uz_599 uz_0
theorem uGz_3743 (b s : Nat) : xall (fun _ a => a ∈ lw_tbl) 1 b s Gz_3743 := And.intro uz_1623 uz_0
theorem uGz_3744 (b s : Nat) : xall (fun _ a => a ∈ lw_tbl) 2 b s Gz_3744 := And.intro (uGz_3742 b (2 * s)) (uGz_3743 (b + s) (2 * s))
theorem uGz_3745 (b s : Nat) : xall (fun _ a => a ∈ lw_tbl) 3 b s Gz_3745 := And.intro (uGz_3741 b (2 * s)) (uGz_3744 (b + s) (2 * s))
theorem uGz_3746 (b s : Nat) : xall (fun _ a => a ∈ lw_tbl) 1 b s Gz_3746 := And.intro uz_343 uz_0
theorem uGz_3747 (b s : Nat) : xall (fun _ a => a ∈ lw_tbl) 1 b s Gz_3747 := And.intro uz_1367 uz_0
theorem uGz_3748 (b s : Nat) : xall (fun _ a => a ∈ lw_tbl) 2 b s Gz_3748 := And.intro (uGz_3746 b (2 * s)) (uGz_3747 (b + s) (2 * s))
theorem uGz_3749 (b s : Nat) : xall (fun _ a => a ∈ lw_tbl) 1 b s Gz_3749 := And.intro uz_855 uz_0
theorem uGz_3750 (b s : Nat) : xall (fun _ a => a ∈ lw_tbl) 1 b s Gz_3750 := And.intro uz_1879 uz_0
theorem uGz_3751 (b s : Nat) : xall (fun _ a => a ∈ lw_tbl) 2 b s Gz_3751 := And.intro (uGz_3749 b (2 * s)) (uGz_3750 (b + s) (2 * s))
theorem uGz_3752 (b s : Nat) : xall (fun _ a => a ∈ lw_tbl) 3 b s Gz_3752 := And.intro (uGz_3748 b (2 * s)) (uGz_3751 (b + s) (2 * s))
theorem uGz_3753 (b s : Nat) : xall (fun _ a => a ∈ lw_tbl) 4 b s Gz_3753 := And.intro (uGz_3745 b (2 * s)) (uGz_3752 (b + s) (2 * s))
theorem uGz_3754 (b s : Nat) : xall (fun _ a => a ∈ lw_tbl) 1 b s Gz_3754 := And.intro uz_215 uz_2263
theorem uGz_3755 (b s : Nat) : xall (fun _ a => a ∈ lw_tbl) 1 b s Gz_3755 := And.intro uz_1239 uz_0
theorem uGz_3756 (b s : Nat) : xall (fun _ a => a ∈ lw_tbl) 2 b s Gz_3756 := And.intro (uGz_3754 b (2 * s)) (uGz_3755 (b + s) (2 * s))
theorem uGz_3757 (b s : Nat) : xall (fun _ a => a ∈ lw_tbl) 1 b s Gz_3757 := And.intro uz_727 uz_0
theorem uGz_3758 (b s : Nat) : xall (fun _ a => a ∈ lw_tbl) 1 b s Gz_3758 := And.intro uz_1751 uz_0
theorem uGz_3759 (b s : Nat) : xall (fun _ a => a ∈ lw_tbl) 2 b s Gz_3759 := And.intro (uGz_3757 b (2 * s)) (uGz_3758 (b + s) (2 * s))
theorem uGz_3760 (b s : Nat) : xall (fun _ a => a ∈ lw_tbl) 3 b s Gz_3760 := And.intro (uGz_3756 b (2 * s)) (uGz_3759 (b + s) (2 * s))
theorem uGz_3761 (b s : Nat) : xall (fun _ a => a ∈ lw_tbl) 1 b s Gz_3761 := And.intro uz_471 uz_0
theorem uGz_3762 (b s : Nat) : xall (fun _ a => a ∈ lw_tbl) 1 b s Gz_3762 := And.intro uz_1495 uz_0
theorem uGz_3763 (b s : Nat) : xall (fun _ a => a ∈ lw_tbl) 2 b s Gz_3763 := And.intro (uGz_3761 b (2 * s)) (uGz_3762 (b + s) (2 * s))
theorem uGz_3764 (b s : Nat) : xall (fun _ a => a ∈ lw_tbl) 1 b s Gz_3764 := And.intro uz_983 uz_0
theorem uGz_3765 (b s : Nat) : xall (fun _ a => a ∈ lw_tbl) 1 b s Gz_3765 := And.intro uz_2007 uz_0
theorem uGz_3766 (b s : Nat) : xall (fun _ a => a ∈ lw_tbl) 2 b s Gz_3766 := And.intro (uGz_3764 b (2 * s)) (uGz_3765 (b + s) (2 * s))
theorem uGz_3767 (b s : Nat) : xall (fun _ a => a ∈ lw_tbl) 3 b s Gz_3767 := And.intro (uGz_3763 b (2 * s)) (uGz_3766 (b + s) (2 * s))
theorem uGz_3768 (b s : Nat) : xall (fun _ a => a ∈ lw_tbl) 4 b s Gz_3768 := And.intro (uGz_3760 b (2 * s)) (uGz_3767 (b + s) (2 * s))
theorem uGz_3769 (b s : Nat) : xall (fun _ a => a ∈ lw_tbl) 5 b s Gz_3769 := And.intro (uGz_3753 b (2 * s)) (uGz_3768 (b + s) (2 * s))
theorem uGz_3770 (b s : Nat) : xall (fun _ a => a ∈ lw_tbl) 6 b s Gz_3770 := And.intro (uGz_3738 b (2 * s)) (uGz_3769 (b + s) (2 * s))
theorem uGz_3771 (b s : Nat) : xall (fun _ a => a ∈ lw_tbl) 1 b s Gz_3771 := And.intro uz_55 uz_2103
theorem uGz_3772 (b s : Nat) : xall (fun _ a => a ∈ lw_tbl) 1 b s Gz_3772 := And.intro uz_1079 uz_0
theorem uGz_3773 (b s : Nat) : xall (fun _ a => a ∈ lw_tbl) 2 b s Gz_3773 := And.intro (uGz_3771 b (2 * s)) (uGz_3772 (b + s) (2 * s))
theorem uGz_3774 (b s : Nat) : xall (fun _ a => a ∈ lw_tbl) 1 b s Gz_3774 := And.intro uz_567 uz_0
theorem uGz_3775 (b s : Nat) : xall (fun _ a => a ∈ lw_tbl) 1 b s Gz_3775 := And.intro uz_1591 uz_0
theorem uGz_3776 (b s : Nat) : xall (fun _ a => a ∈ lw_tbl) 2 b s Gz_3776 := And.intro (uGz_3774 b (2 * s)) (uGz_3775 (b + s) (2 * s))
theorem uGz_3777 (b s : Nat) : xall (fun _ a => a ∈ lw_tbl) 3 b s Gz_3777 := And.intro (uGz_3773 b (2 * s)) (uGz_3776 (b + s) (2 * s))
theorem uGz_3778 (b s : Nat) : xall (fun _ a => a ∈ lw_tbl) 1 b s Gz_3778 := And.intro uz_311 uz_0
theorem uGz_3779 (b s : Nat) : xall (fun _ a => a ∈ lw_tbl) 1 b s Gz_3779 := And.intro uz_1335 uz_0
theorem uGz_3780 (b s : Nat) : xall (fun _ a => a ∈ lw_tbl) 2 b s Gz_3780 := And.intro (uGz_3778 b (2 * s)) (uGz_3779 (b + s) (2 * s))
theorem uGz_3781 (b s : Nat) : xall (fun _ a => a ∈ lw_tbl) 1 b s Gz_3781 := And.intro uz_823 uz_0
theorem uGz_3782 (b s : Nat) : xall (fun _ a => a ∈ lw_tbl) 1 b s Gz_3782 := And.intro uz_1847 uz_0
theorem uGz_3783 (b s : Nat) : xall (fun _ a => a ∈ lw_tbl) 2 b s Gz_3783 := And.intro (uGz_3781 b (2 * s)) (uGz_3782 (b + s) (2 * s))
theorem uGz_3784 (b s : Nat) : xall (fun _ a => a ∈ lw_tbl) 3 b s Gz_3784 := And.intro (uGz_3780 b (2 * s)) (uGz_3783 (b + s) (2 * s))
theorem uGz_3785 (b s : Nat) : xall (fun _ a => a ∈ lw_tbl) 4 b s Gz_3785 := And.intro (uGz_3777 b (2 * s)) (uGz_3784 (b + s) (2 * s))
theorem uGz_3786 (b s : Nat) : xall (fun _ a => a ∈ lw_tbl) 1 b s Gz_3786 := And.intro uz_183 uz_2231
theorem uGz_3787 (b s : Nat) : xall (fun _ a => a ∈ lw_tbl) 1 b s Gz_3787 := And.intro uz_1207 uz_0
theorem uGz_3788 (b s : Nat) : xall (fun _ a => a ∈ lw_tbl) 2 b s Gz_3788 := And.intro (uGz_3786 b (2 * s)) (uGz_3787 (b + s) (2 * s))
theorem uGz_3789 (b s : Nat) : xall (fun _ a => a ∈ lw_tbl) 1 b s Gz_3789 := And.intro uz_695 uz_0
theorem uGz_3790 (b s : Nat) : xall (fun _ a => a ∈ lw_tbl) 1 b s Gz_3790 := And.intro uz_1719 uz_0
theorem uGz_3791 (b s : Nat) : xall (fun _ a => a ∈ lw_tbl) 2 b s Gz_3791 := And.intro (uGz_3789 b (2 * s)) (uGz_3790 (b + s) (2 * s))
theorem uGz_3792 (b s : Nat) : xall (fun _ a => a ∈ lw_tbl) 3 b s Gz_3792 := And.intro (uGz_3788 b (2 * s)) (uGz_3791 (b + s) (2 * s))
theorem uGz_3793 (b s : Nat) : xall (fun _ a => a ∈ lw_tbl) 1 b s Gz_3793 := And.intro uz_439 uz_0
theorem uGz_3794 (b s : Nat) : xall (fun _ a => a ∈ lw_tbl) 1 b s Gz_3794 := And.intro uz_1463 uz_0
theorem uGz_3795 (b s : Nat) : xall (fun _ a => a ∈ lw_tbl) 2 b s Gz_3795 := And.intro (uGz_3793 b (2 * s)) (uGz_3794 (b + s) (2 * s))
theorem uGz_3796 (b s : Nat) : xall (fun _ a => a ∈ lw_tbl) 1 b s Gz_3796 := And.intro uz_951 uz_0
theorem uGz_3797 (b s : Nat) : xall (fun _ a => a ∈ lw_tbl) 1 b s Gz_3797 := And.intro uz_1975 uz_0
theorem uGz_3798 (b s : Nat) : xall (fun _ a => a ∈ lw_tbl) 2 b s Gz_3798 := And.intro (uGz_3796 b (2 * s)) (uGz_3797 (b + s) (2 * s))
theorem uGz_3799 (b s : Nat) : xall (fun _ a => a ∈ lw_tbl) 3 b s Gz_3799 := And.intro (uGz_3795 b (2 * s)) (uGz_3798 (b + s) (2 * s))
theorem uGz_3800 (b s : Nat) : xall (fun _ a => a ∈ lw_tbl) 4 b s Gz_3800 := And.intro (uGz_3792 b (2 * s)) (uGz_3799 (b + s) (2 * s))
theorem uGz_3801 (b s : Nat) : xall (fun _ a => a ∈ lw_tbl) 5 b s Gz_3801 := And.intro (uGz_3785 b (2 * s)) (uGz_3800 (b + s) (2 * s))
theorem uGz_3802 (b s : Nat) : xall (fun _ a => a ∈ lw_tbl) 1 b s Gz_3802 := And.intro uz_119 uz_2167
theorem uGz_3803 (b s : Nat) : xall (fun _ a => a ∈ lw_tbl) 1 b s Gz_3803 := And.intro uz_1143 uz_0
theorem uGz_3804 (b s : Nat) : xall (fun _ a => a ∈ lw_tbl) 2 b s Gz_3804 := And.intro (uGz_3802 b (2 * s)) (uGz_3803 (b + s) (2 * s))
theorem uGz_3805 (b s : Nat) : xall (fun _ a => a ∈ lw_tbl) 1 b s Gz_3805 := And.intro uz_631 uz_0
theorem uGz_3806 (b s : Nat) : xall (fun _ a => a ∈ lw_tbl) 1 b s Gz_3806 := And.intro uz_1655 uz_0
theorem uGz_3807 (b s : Nat) : xall (fun _ a => a ∈ lw_tbl) 2 b s Gz_3807 := And.intro (uGz_3805 b (2 * s)) (uGz_3806 (b + s) (2 * s))
theorem uGz_3808 (b s : Nat) : xall (fun _ a => a ∈ lw_tbl) 3 b s Gz_3808 := And.intro (uGz_3804 b (2 * s)) (uGz_3807 (b + s) (2 * s))
theorem uGz_3809 (b s : Nat) : xall (fun _ a => a ∈ lw_tbl) 1 b s Gz_3809 := And.intro uz_375 uz_0
theorem uGz_3810 (b s : Nat) : xall (fun _ a => a ∈ lw_tbl) 1 b s Gz_3810 := And.intro uz_1399 uz_0
theorem uGz_3811 (b s : Nat) : xall (fun _ a => a ∈ lw_tbl) 2 b s Gz_3811 := And.intro (uGz_3809 b (2 * s)) (uGz_3810 (b + s) (2 * s))
theorem uGz_3812 (b s : Nat) : xall (fun _ a => a ∈ lw_tbl) 1 b s Gz_3812 := And.intro uz_887 uz_0
theorem uGz_3813 (b s : Nat) : xall (fun _ a => a ∈ lw_tbl) 1 b s Gz_3813 := And.intro uz_1911 uz_0
theorem uGz_3814 (b s : Nat) : xall (fun _ a => a ∈ lw_tbl) 2 b s Gz_3814 := And.intro (uGz_3812 b (2 * s)) (uGz_3813 (b + s) (2 * s))
theorem uGz_3815 (b s : Nat) : xall (fun _ a => a ∈ lw_tbl) 3 b s Gz_3815 := And.intro (uGz_3811 b (2 * s)) (uGz_3814 (b + s) (2 * s))
theorem uGz_3816 (b s : Nat) : xall (fun _ a => a ∈ lw_tbl) 4 b s Gz_3816 := And.intro (uGz_3808 b (2 * s)) (uGz_3815 (b + s) (2 * s))
theorem uGz_3817 (b s : Nat) : xall (fun _ a => a ∈ lw_tbl) 1 b s Gz_3817 := And.intro uz_247 uz_0
theorem uGz_3818 (b s : Nat) : xall (fun _ a => a ∈ lw_tbl) 1 b s Gz_3818 := And.intro uz_1271 uz_0
theorem uGz_3819 (b s : Nat) : xall (fun _ a => a ∈ lw_tbl) 2 b s Gz_3819 := And.intro (uGz_3817 b (2 * s)) (uGz_3818 (b + s) (2 * s))
theorem uGz_3820 (b s : Nat) : xall (fun _ a => a ∈ lw_tbl) 1 b s Gz_3820 := And.intro uz_759 uz_0
theorem uGz_3821 (b s : Nat) : xall (fun _ a => a ∈ lw_tbl) 1 b s Gz_3821 := And.intro uz_1783 uz_0
theorem uGz_3822 (b s : Nat) : xall (fun _ a => a ∈ lw_tbl) 2 b s Gz_3822 := And.intro (uGz_3820 b (2 * s)) (uGz_3821 (b + s) (2 * s))
theorem uGz_3823 (b s : Nat) : xall (fun _ a => a ∈ lw_tbl) 3 b s Gz_3823 := And.intro (uGz_3819 b (2 * s)) (uGz_3822 (b + s) (2 * s))
theorem uGz_3824 (b s : Nat) : xall (fun _ a => a ∈ lw_tbl) 1 b s Gz_3824 := And.intro uz_503 uz_0
theorem uGz_3825 (b s : Nat) : xall (fun _ a => a ∈ lw_tbl) 1 b s Gz_3825 := And.intro uz_1527 uz_0
theorem uGz_3826 (b s : Nat) : xall (fun _ a => a ∈ lw_tbl) 2 b s Gz_3826 := And.intro (uGz_3824 b (2 * s)) (uGz_3825 (b + s) (2 * s))
theorem uGz_3827 (b s : Nat) : xall (fun _ a => a ∈ lw_tbl) 1 b s Gz_3827 := And.intro uz_1015 uz_0
theorem uGz_3828 (b s : Nat) : xall (fun _ a => a ∈ lw_tbl) 1 b s Gz_3828 := And.intro uz_2039 uz_0
theorem uGz_3829 (b s : Nat) : xall (fun _ a => a ∈ lw_tbl) 2 b s Gz_3829 := And.intro (uGz_3827 b (2 * s)) (uGz_3828 (b + s) (2 * s))
theorem uGz_3830 (b s : Nat) : xall (fun _ a => a ∈ lw_tbl) 3 b s Gz_3830 := And.intro (uGz_3826 b (2 * s)) (uGz_3829 (b + s) (2 * s))
theorem uGz_3831 (b s : Nat) : xall (fun _ a => a ∈ lw_tbl) 4 b s Gz_3831 := And.intro (uGz_3823 b (2 * s)) (uGz_3830 (b + s) (2 * s))
theorem uGz_3832 (b s : Nat) : xall (fun _ a => a ∈ lw_tbl) 5 b s Gz_3832 := And.intro (uGz_3816 b (2 * s)) (uGz_3831 (b + s) (2 * s))
theorem uGz_3833 (b s : Nat) : xall (fun _ a => a ∈ lw_tbl) 6 b s Gz_3833 := And.intro (uGz_3801 b (2 * s)) (uGz_3832 (b + s) (2 * s))
theorem uGz_3834 (b s : Nat) : xall (fun _ a => a ∈ lw_tbl) 7 b s Gz_3834 := And.intro (uGz_3770 b (2 * s)) (uGz_3833 (b + s) (2 * s))
theorem uGz_3835 (b s : Nat) : xall (fun _ a => a ∈ lw_tbl) 8 b s Gz_3835 := And.intro (uGz_3707 b (2 * s)) (uGz_3834 (b + s) (2 * s))
theorem uGz_3836 (b s : Nat) : xall (fun _ a => a ∈ lw_tbl) 1 b s Gz_3836 := And.intro uz_15 uz_2063
theorem uGz_3837 (b s : Nat) : xall (fun _ a => a ∈ lw_tbl) 1 b s Gz_3837 := And.intro uz_1039 uz_0
theorem uGz_3838 (b s : Nat) : xall (fun _ a => a ∈ lw_tbl) 2 b s Gz_3838 := And.intro (uGz_3836 b (2 * s)) (uGz_3837 (b + s) (2 * s))
theorem uGz_3839 (b s : Nat) : xall (fun _ a => a ∈ lw_tbl) 1 b s Gz_3839 := And.intro uz_527 uz_0
theorem uGz_3840 (b s : Nat) : xall (fun _ a => a ∈ lw_tbl) 1 b s Gz_3840 := And.intro uz_1551 uz_0
theorem uGz_3841 (b s : Nat) : xall (fun _ a => a ∈ lw_tbl) 2 b s Gz_3841 := And.intro (uGz_3839 b (2 * s)) (uGz_3840 (b + s) (2 * s))
theorem uGz_3842 (b s : Nat) : xall (fun _ a => a ∈ lw_tbl) 3 b s Gz_3842 := And.intro (uGz_3838 b (2 * s)) (uGz_3841 (b + s) (2 * s))
theorem uGz_3843 (b s : Nat) : xall (fun _ a => a ∈ lw_tbl) 1 b s Gz_3843 := And.intro uz_271 uz_0
theorem uGz_3844 (b s : Nat) : xall (fun _ a => a ∈ lw_tbl) 1 b s Gz_3844 := And.intro uz_1295 uz_0
theorem uGz_3845 (b s : Nat) : xall (fun _ a => a ∈ lw_tbl) 2 b s Gz_3845 := And.intro (uGz_3843 b (2 * s)) (uGz_3844 (b + s) (2 * s))
theorem uGz_3846 (b s : Nat) : xall (fun _ a => a ∈ lw_tbl) 1 b s Gz_3846 := And.intro uz_783 uz_0
theorem uGz_3847 (b s : Nat) : xall (fun _ a => a ∈ lw_tbl) 1 b s Gz_3847 := And.intro uz_1807 uz_0
theorem uGz_3848 (b s : Nat) : xall (fun _ a => a ∈ lw_tbl) 2 b s Gz_3848 := And.intro (uGz_3846 b (2 * s)) (uGz_3847 (b + s) (2 * s))
theorem uGz_3849 (b s : Nat) : xall (fun _ a => a ∈ lw_tbl) 3 b s Gz_3849 := And.intro (uGz_3845 b (2 * s)) (uGz_3848 (b + s) (2 * s))
theorem uGz_3850 (b s : Nat) : xall (fun _ a => a ∈ lw_tbl) 4 b s Gz_3850 := And.intro (uGz_3842 b (2 * s)) (uGz_3849 (b + s) (2 * s))
theorem uGz_3851 (b s : Nat) : xall (fun _ a => a ∈ lw_tbl) 1 b s Gz_3851 := And.intro uz_143 uz_2191
theorem uGz_3852 (b s : Nat) : xall (fun _ a => a ∈ lw_tbl) 1 b s Gz_3852 := And.intro uz_1167 uz_0
theorem uGz_3853 (b s : Nat) : xall (fun _ a => a ∈ lw_tbl) 2 b s Gz_3853 := And.intro (uGz_3851 b (2 * s)) (uGz_3852 (b + s) (2 * s))
theorem uGz_3854 (b s : Nat) : xall (fun _ a => a ∈ lw_tbl) 1 b s Gz_3854 := And.intro uz_655 uz_0
theorem uGz_3855 (b s : Nat) : xall (fun _ a => a ∈ lw_tbl) 1 b s Gz_3855 := And.intro uz_1679 uz_0
theorem uGz_3856 (b s : Nat) : xall (fun _ a => a ∈ lw_tbl) 2 b s Gz_3856 := And.intro (uGz_3854 b (2 * s)) (uGz_3855 (b + s) (2 * s))
theorem uGz_3857 (b s : Nat) : xall (fun _ a => a ∈ lw_tbl) 3 b s Gz_3857 := And.intro (uGz_3853 b (2 * s)) (uGz_3856 (b + s) (2 * s))
theorem uGz_3858 (b s : Nat) : xall (fun _ a => a ∈ lw_tbl) 1 b s Gz_3858 := And.intro uz_399 uz_0
theorem uGz_3859 (b s : Nat) : xall (fun _ a => a ∈ lw_tbl) 1 b s Gz_3859 := And.intro uz_1423 uz_0
theorem uGz_3860 (b s : Nat) : xall (fun _ a => a ∈ lw_tbl) 2 b s Gz_3860 := And.intro (uGz_3858 b (2 * s)) (uGz_3859 (b + s) (2 * s))
theorem uGz_3861 (b s : Nat) : xall (fun _ a => a ∈ lw_tbl) 1 b s Gz_3861 := And.intro uz_911 uz_0
theorem uGz_3862 (b s : Nat) : xall (fun _ a => a ∈ lw_tbl) 1 b s Gz_3862 := And.intro uz_1935 uz_0
theorem uGz_3863 (b s : Nat) : xall (fun _ a => a ∈ lw_tbl) 2 b s Gz_3863 := And.intro (uGz_3861 b (2 * s)) (uGz_3862 (b + s) (2 * s))
theorem uGz_3864 (b s : Nat) : xall (fun _ a => a ∈ lw_tbl) 3 b s Gz_3864 := And.intro (uGz_3860 b (2 * s)) (uGz_3863 (b + s) (2 * s))
theorem uGz_3865 (b s : Nat) : xall (fun _ a => a ∈ lw_tbl) 4 b s Gz_3865 := And.intro (uGz_3857 b (2 * s)) (uGz_3864 (b + s) (2 * s))
theorem uGz_3866 (b s : Nat) : xall (fun _ a => a ∈ lw_tbl) 5 b s Gz_3866 := And.intro (uGz_3850 b (2 * s)) (uGz_3865 (b + s) (2 * s))
theorem uGz_3867 (b s : Nat) : xall (fun _ a => a ∈ lw_tbl) 1 b s Gz_3867 := And.intro uz_79 uz_2127
theorem uGz_3868 (b s : Nat) : xall (fun _ a => a ∈ lw_tbl) 1 b s Gz_3868 := And.intro uz_1103 uz_0
theorem uGz_3869 (b s : Nat) : xall (fun _ a => a ∈ lw_tbl) 2 b s Gz_3869 := And.intro (uGz_3867 b (2 * s)) (uGz_3868 (b + s) (2 * s))
theorem uGz_3870 (b s : Nat) : xall (fun _ a => a ∈ lw_tbl) 1 b s Gz_3870 := And.intro uz_591 uz_0
theorem uGz_3871 (b s : Nat) : xall (fun _ a => a ∈ lw_tbl) 1 b s Gz_3871 := And.intro uz_1615 uz_0
theorem uGz_3872 (b s : Nat) : xall (fun _ a => a ∈ lw_tbl) 2 b s Gz_3872 := And.intro (uGz_3870 b (2 * s)) (uGz_3871 (b + s) (2 * s))
theorem uGz_3873 (b s : Nat) : xall (fun _ a => a ∈ lw_tbl) 3 b s Gz_3873 := And.intro (uGz_3869 b (2 * s)) (uGz_3872 (b + s) (2 * s))
theorem uGz_3874 (b s : Nat) : xall (fun _ a => a ∈ lw_tbl) 1 b s Gz_3874 := And.intro uz_335 uz_0
theorem uGz_3875 (b s : Nat) : xall (fun _ a => a ∈ lw_tbl) 1 b s Gz_3875 := And.intro uz_1359 uz_0
theorem uGz_3876 (b s : Nat) : xall (fun _ a => a ∈ lw_tbl) 2 b s Gz_3876 := And.intro (uGz_3874 b (2 * s)) (uGz_3875 (b + s) (2 * s))
theorem uGz_3877 (b s : Nat) : xall (fun _ a => a ∈ lw_tbl) 1 b s Gz_3877 := And.intro uz_847 uz_0
theorem uGz_3878 (b s : Nat) : xall (fun _ a => a ∈ lw_tbl) 1 b s Gz_3878 := And.intro uz_1871 uz_0
theorem uGz_3879 (b s : Nat) : xall (fun _ a => a ∈ lw_tbl) 2 b s Gz_3879 := And.intro (uGz_3877 b (2 * s)) (uGz_3878 (b + s) (2 * s))
theorem uGz_3880 (b s : Nat) : xall (fun _ a => a ∈ lw_tbl) 3 b s Gz_3880 := And.intro (uGz_3876 b (2 * s)) (uGz_3879 (b + s) (2 * s))
theorem uGz_3881 (b s : Nat) : xall (fun _ a => a ∈ lw_tbl) 4 b s Gz_3881 := And.intro (uGz_3873 b (2 * s)) (uGz_3880 (b + s) (2 * s))
theorem uGz_3882 (b s : Nat) : xall (fun _ a => a ∈ lw_tbl) 1 b s Gz_3882 := And.intro uz_207 uz_2255
theorem uGz_3883 (b s : Nat) : xall (fun _ a => a ∈ lw_tbl) 1 b s Gz_3883 := And.intro uz_1231 uz_0
theorem uGz_3884 (b s : Nat) : xall (fun _ a => a ∈ lw_tbl) 2 b s Gz_3884 := And.intro (uGz_3882 b (2 * s)) (uGz_3883 (b + s) (2 * s))
theorem uGz_3885 (b s : Nat) : xall (fun _ a => a ∈ lw_tbl) 1 b s Gz_3885 := And.intro uz_719 uz_0
theorem uGz_3886 (b s : Nat) : xall (fun _ a => a ∈ lw_tbl) 1 b s Gz_3886 := And.intro uz_1743 uz_0
theorem uGz_3887 (b s : Nat) : xall (fun _ a => a ∈ lw_tbl) 2 b s Gz_3887 := And.intro (uGz_3885 b (2 * s)) (uGz_3886 (b + s) (2 * s))
theorem uGz_3888 (b s : Nat) : xall (fun _ a => a ∈ lw_tbl) 3 b s Gz_3888 := And.intro (uGz_3884 b (2 * s)) (uGz_3887 (b + s) (2 * s))
theorem uGz_3889 (b s : Nat) : xall (fun _ a => a ∈ lw_tbl) 1 b s Gz_3889 := And.intro uz_463 uz_0
theorem uGz_3890 (b s : Nat) : xall (fun _ a => a ∈ lw_tbl) 1 b s Gz_3890 := And.intro uz_1487 uz_0
theorem uGz_3891 (b s : Nat) : xall (fun _ a => a ∈ lw_tbl) 2 b s Gz_3891 := And.intro (uGz_3889 b (2 * s)) (uGz_3890 (b + s) (2 * s))
theorem uGz_3892 (b s : Nat) : xall (fun _ a => a ∈ lw_tbl) 1 b s Gz_3892 := And.intro uz_975 uz_0
theorem uGz_3893 (b s : Nat) : xall (fun _ a => a ∈ lw_tbl) 1 b s Gz_3893 := And.intro uz_1999 uz_0
theorem uGz_3894 (b s : Nat) : xall (fun _ a => a ∈ lw_tbl) 2 b s Gz_3894 := And.intro (uGz_3892 b (2 * s)) (uGz_3893 (b + s) (2 * s))
theorem uGz_3895 (b s : Nat) : xall (fun _ a => a ∈ lw_tbl) 3 b s Gz_3895 := And.intro (uGz_3891 b (2 * s)) (uGz_3894 (b + s) (2 * s))
theorem uGz_3896 (b s : Nat) : xall (fun _ a => a ∈ lw_tbl) 4 b s Gz_3896 := And.intro (uGz_3888 b (2 * s)) (uGz_3895 (b + s) (2 * s))
theorem uGz_3897 (b s : Nat) : xall (fun _ a => a ∈ lw_tbl) 5 b s Gz_3897 := And.intro (uGz_3881 b (2 * s)) (uGz_3896 (b + s) (2 * s))
theorem uGz_3898 (b s : Nat) : xall (fun _ a => a ∈ lw_tbl) 6 b s Gz_3898 := And.intro (uGz_3866 b (2 * s)) (uGz_3897 (b + s) (2 * s))
theorem uGz_3899 (b s : Nat) : xall (fun _ a => a ∈ lw_tbl) 1 b s Gz_3899 := And.intro uz_47 uz_2095
theorem uGz_3900 (b s : Nat) : xall (fun _ a => a ∈ lw_tbl) 1 b s Gz_3900 := And.intro uz_1071 uz_0
theorem uGz_3901 (b s : Nat) : xall (fun _ a => a ∈ lw_tbl) 2 b s Gz_3901 := And.intro (uGz_3899 b (2 * s)) (uGz_3900 (b + s) (2 * s))
theorem uGz_3902 (b s : Nat) : xall (fun _ a => a ∈ lw_tbl) 1 b s Gz_3902 := And.intro uz_559 uz_0
theorem uGz_3903 (b s : Nat) : xall (fun _ a => a ∈ lw_tbl) 1 b s Gz_3903 := And.intro uz_1583 uz_0
theorem uGz_3904 (b s : Nat) : xall (fun _ a => a ∈ lw_tbl) 2 b s Gz_3904 := And.intro (uGz_3902 b (2 * s)) (uGz_3903 (b + s) (2 * s))
theorem uGz_3905 (b s : Nat) : xall (fun _ a => a ∈ lw_tbl) 3 b s Gz_3905 := And.intro (uGz_3901 b (2 * s)) (uGz_3904 (b + s) (2 * s))
theorem uGz_3906 (b s : Nat) : xall (fun _ a => a ∈ lw_tbl) 1 b s Gz_3906 := And.intro uz_303 uz_0
theorem uGz_3907 (b s : Nat) : xall (fun _ a => a ∈ lw_tbl) 1 b s Gz_3907 := And.intro uz_1327 uz_0
theorem uGz_3908 (b s : Nat) : xall (fun _ a => a ∈ lw_tbl) 2 b s Gz_3908 := And.intro (uGz_3906 b (2 * s)) (uGz_3907 (b + s) (2 * s))
theorem uGz_3909 (b s : Nat) : xall (fun _ a => a ∈ lw_tbl) 1 b s Gz_3909 := And.intro uz_815 uz_0
theorem uGz_3910 (b s : Nat) : xall (fun _ a => a ∈ lw_tbl) 1 b s Gz_3910 := And.intro uz_1839 uz_0
theorem uGz_3911 (b s : Nat) : xall (fun _ a => a ∈ lw_tbl) 2 b s Gz_3911 := And.intro (uGz_3909 b (2 * s)) (uGz_3910 (b + s) (2 * s))
theorem uGz_3912 (b s : Nat) : xall (fun _ a => a ∈ lw_tbl) 3 b s Gz_3912 := And.intro (uGz_3908 b (2 * s)) (uGz_3911 (b + s) (2 * s))
theorem uGz_3913 (b s : Nat) : xall (fun _ a => a ∈ lw_tbl) 4 b s Gz_3913 := And.intro (uGz_3905 b (2 * s)) (uGz_3912 (b + s) (2 * s))
theorem uGz_3914 (b s : Nat) : xall (fun _ a => a ∈ lw_tbl) 1 b s Gz_3914 := And.intro uz_175 uz_2223
theorem uGz_3915 (b s : Nat) : xall (fun _ a => a ∈ lw_tbl) 1 b s Gz_3915 := And.intro uz_1199 uz_0
theorem uGz_3916 (b s : Nat) : xall (fun _ a => a ∈ lw_tbl) 2 b s Gz_3916 := And.intro (uGz_3914 b (2 * s)) (uGz_3915 (b + s) (2 * s))
theorem uGz_3917 (b s : Nat) : xall (fun _ a => a ∈ lw_tbl) 1 b s Gz_3917 := And.intro uz_687 uz_0
theorem uGz_3918 (b s : Nat) : xall (fun _ a => a ∈ lw_tbl) 1 b s Gz_3918 := And.intro uz_1711 uz_0
theorem uGz_3919 (b s : Nat) : xall (fun _ a => a ∈ lw_tbl) 2 b s Gz_3919 := And.intro (uGz_3917 b (2 * s)) (uGz_3918 (b + s) (2 * s))
theorem uGz_3920 (b s : Nat) : xall (fun _ a => a ∈ lw_tbl) 3 b s Gz_3920 := And.intro (uGz_3916 b (2 * s)) (uGz_3919 (b + s) (2 * s))
theorem uGz_3921 (b s : Nat) : xall (fun _ a => a ∈ lw_tbl) 1 b s Gz_3921 := And.intro uz_431 uz_0
theorem uGz_3922 (b s : Nat) : xall (fun _ a => a ∈ lw_tbl) 1 b s Gz_3922 := And.intro uz_1455 uz_0
theorem uGz_3923 (b s : Nat) : xall (fun _ a => a ∈ lw_tbl) 2 b s Gz_3923 := And.intro (uGz_3921 b (2 * s)) (uGz_3922 (b + s) (2 * s))
theorem uGz_3924 (b s : Nat) : xall (fun _ a => a ∈ lw_tbl) 1 b s Gz_3924 := And.intro uz_943 uz_0
theorem uGz_3925 (b s : Nat) : xall (fun _ a => a ∈ lw_tbl) 1 b s Gz_3925 := And.intro uz_1967 uz_0
theorem uGz_3926 (b s : Nat) : xall (fun _ a => a ∈ lw_tbl) 2 b s Gz_3926 := And.intro (uGz_3924 b (2 * s)) (uGz_3925 (b + s) (2 * s))
theorem uGz_3927 (b s : Nat) : xall (fun _ a => a ∈ lw_tbl) 3 b s Gz_3927 := And.intro (uGz_3923 b (2 * s)) (uGz_3926 (b + s) (2 * s))
theorem uGz_3928 (b s : Nat) : xall (fun _ a => a ∈ lw_tbl) 4 b s Gz_3928 := And.intro (uGz_3920 b (2 * s)) (uGz_3927 (b + s) (2 * s))
theorem uGz_3929 (b s : Nat) : xall (fun _ a => a ∈ lw_tbl) 5 b s Gz_3929 := And.intro (uGz_3913 b (2 * s)) (uGz_3928 (b + s) (2 * s))
theorem uGz_3930 (b s : Nat) : xall (fun _ a => a ∈ lw_tbl) 1 b s Gz_3930 := And.intro uz_111 uz_2159
theorem uGz_3931 (b s : Nat) : xall (fun _ a => a ∈ lw_tbl) 1 b s Gz_3931 := And.intro uz_1135 uz_0
theorem uGz_3932 (b s : Nat) : xall (fun _ a => a ∈ lw_tbl) 2 b s Gz_3932 := And.intro (uGz_3930 b (2 * s)) (uGz_3931 (b + s) (2 * s))
theorem uGz_3933 (b s : Nat) : xall (fun _ a => a ∈ lw_tbl) 1 b s Gz_3933 := And.intro uz_623 uz_0
theorem uGz_3934 (b s : Nat) : xall (fun _ a => a ∈ lw_tbl) 1 b s Gz_3934 := And.intro uz_1647 uz_0
theorem uGz_3935 (b s : Nat) : xall (fun _ a => a ∈ lw_tbl) 2 b s Gz_3935 := And.intro (uGz_3933 b (2 * s)) (uGz_3934 (b + s) (2 * s))
theorem uGz_3936 (b s : Nat) : xall (fun _ a => a ∈ lw_tbl) 3 b s Gz_3936 := And.intro (uGz_3932 b (2 * s)) (uGz_3935 (b + s) (2 * s))
theorem uGz_3937 (b s : Nat) : xall (fun _ a => a ∈ lw_tbl) 1 b s Gz_3937 := And.intro uz_367 uz_0
theorem uGz_3938 (b s : Nat) : xall (fun _ a => a ∈ lw_tbl) 1 b s Gz_3938 := And.intro uz_1391 uz_0
theorem uGz_3939 (b s : Nat) : xall (fun _ a => a ∈ lw_tbl) 2 b s Gz_3939 := And.intro (uGz_3937 b (2 * s)) (uGz_3938 (b + s) (2 * s))
theorem uGz_3940 (b s : Nat) : xall (fun _ a => a ∈ lw_tbl) 1 b s Gz_3940 := And.intro uz_879 uz_0
theorem uGz_3941 (b s : Nat) : xall (fun _ a => a ∈ lw_tbl) 1 b s Gz_3941 := And.intro uz_1903 uz_0
theorem uGz_3942 (b s : Nat) : xall (fun _ a => a ∈ lw_tbl) 2 b s Gz_3942 := And.intro (uGz_3940 b (2 * s)) (uGz_3941 (b + s) (2 * s))
theorem uGz_3943 (b s : Nat) : xall (fun _ a => a ∈ lw_tbl) 3 b s Gz_3943 := And.intro (uGz_3939 b (2 * s)) (uGz_3942 (b + s) (2 * s))
theorem uGz_3944 (b s : Nat) : xall (fun _ a => a ∈ lw_tbl) 4 b s Gz_3944 := And.intro (uGz_3936 b (2 * s)) (uGz_3943 (b + s) (2 * s))
theorem uGz_3945 (b s : Nat) : xall (fun _ a => a ∈ lw_tbl) 1 b s Gz_3945 := And.intro uz_239 uz_0
theorem uGz_3946 (b s : Nat) : xall (fun _ a => a ∈ lw_tbl) 1 b s Gz_3946 := And.intro uz_1263 uz_0
theorem uGz_3947 (b s : Nat) : xall (fun _ a => a ∈ lw_tbl) 2 b s Gz_3947 := And.intro (uGz_3945 b (2 * s)) (uGz_3946 (b + s) (2 * s))
theorem uGz_3948 (b s : Nat) : xall (fun _ a => a ∈ lw_tbl) 1 b s Gz_3948 := And.intro uz_751 uz_0
theorem uGz_3949 (b s : Nat) : xall (fun _ a => a ∈ lw_tbl) 1 b s Gz_3949 := And.intro uz_1775 uz_0
theorem uGz_3950 (b s : Nat) : xall (fun _ a => a ∈ lw_tbl) 2 b s Gz_3950 := And.intro (uGz_3948 b (2 * s)) (uGz_3949 (b + s) (2 * s))
theorem uGz_3951 (b s : Nat) : xall (fun _ a => a ∈ lw_tbl) 3 b s Gz_3951 := And.intro (uGz_3947 b (2 * s)) (uGz_3950 (b + s) (2 * s))
theorem uGz_3952 (b s : Nat) : xall (fun _ a => a ∈ lw_tbl) 1 b s Gz_3952 := And.intro uz_495 uz_0
theorem uGz_3953 (b s : Nat) : xall (fun _ a => a ∈ lw_tbl) 1 b s Gz_3953 := And.intro uz_1519 uz_0
theorem uGz_3954 (b s : Nat) : xall (fun _ a => a ∈ lw_tbl) 2 b s Gz_3954 := And.intro (uGz_3952 b (2 * s)) (uGz_3953 (b + s) (2 * s))
theorem uGz_3955 (b s : Nat) : xall (fun _ a => a ∈ lw_tbl) 1 b s Gz_3955 := And.intro uz_1007 uz_0
theorem uGz_3956 (b s : Nat) : xall (fun _ a => a ∈ lw_tbl) 1 b s Gz_3956 := And.intro uz_2031 uz_0
theorem uGz_3957 (b s : Nat) : xall (fun _ a => a ∈ lw_tbl) 2 b s Gz_3957 := And.intro (uGz_3955 b (2 * s)) (uGz_3956 (b + s) (2 * s))
theorem uGz_3958 (b s : Nat) : xall (fun _ a => a ∈ lw_tbl) 3 b s Gz_3958 := And.intro (uGz_3954 b (2 * s)) (uGz_3957 (b + s) (2 * s))
theorem uGz_3959 (b s : Nat) : xall (fun _ a => a ∈ lw_tbl) 4 b s Gz_3959 := And.intro (uGz_3951 b (2 * s)) (uGz_3958 (b + s) (2 * s))
theorem uGz_3960 (b s : Nat) : xall (fun _ a => a ∈ lw_tbl) 5 b s Gz_3960 := And.intro (uGz_3944 b (2 * s)) (uGz_3959 (b + s) (2 * s))
theorem uGz_3961 (b s : Nat) : xall (fun _ a => a ∈ lw_tbl) 6 b s Gz_3961 := And.intro (uGz_3929 b (2 * s)) (uGz_3960 (b + s) (2 * s))
theorem uGz_3962 (b s : Nat) : xall (fun _ a => a ∈ lw_tbl) 7 b s Gz_3962 := And.intro (uGz_3898 b (2 * s)) (uGz_3961 (b + s) (2 * s))
theorem uGz_3963 (b s : Nat) : xall (fun _ a => a ∈ lw_tbl) 1 b s Gz_3963 := And.intro uz_31 uz_2079
theorem uGz_3964 (b s : Nat) : xall (fun _ a => a ∈ lw_tbl) 1 b s Gz_3964 := And.intro uz_1055 uz_0
theorem uGz_3965 (b s : Nat) : xall (fun _ a => a ∈ lw_tbl) 2 b s Gz_3965 := And.intro (uGz_3963 b (2 * s)) (uGz_3964 (b + s) (2 * s))
theorem uGz_3966 (b s : Nat) : xall (fun _ a => a ∈ lw_tbl) 1 b s Gz_3966 := And.intro uz_543 uz_0
theorem uGz_3967 (b s : Nat) : xall (fun _ a => a ∈ lw_tbl) 1 b s Gz_3967 := And.intro uz_1567 uz_0
theorem uGz_3968 (b s : Nat) : xall (fun _ a => a ∈ lw_tbl) 2 b s Gz_3968 := And.intro (uGz_3966 b (2 * s)) (uGz_3967 (b + s) (2 * s))
theorem uGz_3969 (b s : Nat) : xall (fun _ a => a ∈ lw_tbl) 3 b s Gz_3969 := And.intro (uGz_3965 b (2 * s)) (uGz_3968 (b + s) (2 * s))
theorem uGz_3970 (b s : Nat) : xall (fun _ a => a ∈ lw_tbl) 1 b s Gz_3970 := And.intro uz_287 uz_0
theorem uGz_3971 (b s : Nat) : xall (fun _ a => a ∈ lw_tbl) 1 b s Gz_3971 := And.intro uz_1311 uz_0
theorem uGz_3972 (b s : Nat) : xall (fun _ a => a ∈ lw_tbl) 2 b s Gz_3972 := And.intro (uGz_3970 b (2 * s)) (uGz_3971 (b + s) (2 * s))
theorem uGz_3973 (b s : Nat) : xall (fun _ a => a ∈ lw_tbl) 1 b s Gz_3973 := And.intro uz_799 uz_0
theorem uGz_3974 (b s : Nat) : xall (fun _ a => a ∈ lw_tbl) 1 b s Gz_3974 := And.intro uz_1823 uz_0
theorem uGz_3975 (b s : Nat) : xall (fun _ a => a ∈ lw_tbl) 2 b s Gz_3975 := And.intro (uGz_3973 b (2 * s)) (uGz_3974 (b + s) (2 * s))
theorem uGz_3976 (b s : Nat) : xall (fun _ a => a ∈ lw_tbl) 3 b s Gz_3976 := And.intro (uGz_3972 b (2 * s)) (uGz_3975 (b + s) (2 * s))
theorem uGz_3977 (b s : Nat) : xall (fun _ a => a ∈ lw_tbl) 4 b s Gz_3977 := And.intro (uGz_3969 b (2 * s)) (uGz_3976 (b + s) (2 * s))
theorem uGz_3978 (b s : Nat) : xall (fun _ a => a ∈ lw_tbl) 1 b s Gz_3978 := And.intro uz_159 uz_2207
theorem uGz_3979 (b s : Nat) : xall (fun _ a => a ∈ lw_tbl) 1 b s Gz_3979 := And.intro uz_1183 uz_0
theorem uGz_3980 (b s : Nat) : xall (fun _ a => a ∈ lw_tbl) 2 b s Gz_3980 := And.intro (uGz_3978 b (2 * s)) (uGz_3979 (b + s) (2 * s))
theorem uGz_3981 (b s : Nat) : xall (fun _ a => a ∈ lw_tbl) 1 b s Gz_3981 := And.intro uz_671 uz_0
theorem uGz_3982 (b s : Nat) : xall (fun _ a => a ∈ lw_tbl) 1 b s Gz_3982 := And.intro uz_1695 uz_0
theorem uGz_3983 (b s : Nat) : xall (fun _ a => a ∈ lw_tbl) 2 b s Gz_3983 := And.intro (uGz_3981 b (2 * s)) (uGz_3982 (b + s) (2 * s))
theorem uGz_3984 (b s : Nat) : xall (fun _ a => a ∈ lw_tbl) 3 b s Gz_3984 := And.intro (uGz_3980 b (2 * s)) (uGz_3983 (b + s) (2 * s))
theorem uGz_3985 (b s : Nat) : xall (fun _ a => a ∈ lw_tbl) 1 b s Gz_3985 := And.intro uz_415 uz_0
theorem uGz_3986 (b s : Nat) : xall (fun _ a => a ∈ lw_tbl) 1 b s Gz_3986 := And.intro uz_1439 uz_0
theorem uGz_3987 (b s : Nat) : xall (fun _ a => a ∈ lw_tbl) 2 b s Gz_3987 := And.intro (uGz_3985 b (2 * s)) (uGz_3986 (b + s) (2 * s))
theorem uGz_3988 (b s : Nat) : xall (fun _ a => a ∈ lw_tbl) 1 b s Gz_3988 := And.intro uz_927 uz_0
theorem uGz_3989 (b s : Nat) : xall (fun _ a => a ∈ lw_tbl) 1 b s Gz_3989 := And.intro uz_1951 uz_0
theorem uGz_3990 (b s : Nat) : xall (fun _ a => a ∈ lw_tbl) 2 b s Gz_3990 := And.intro (uGz_3988 b (2 * s)) (uGz_3989 (b + s) (2 * s))
theorem uGz_3991 (b s : Nat) : xall (fun _ a => a ∈ lw_tbl) 3 b s Gz_3991 := And.intro (uGz_3987 b (2 * s)) (uGz_3990 (b + s) (2 * s))
theorem uGz_3992 (b s : Nat) : xall (fun _ a => a ∈ lw_tbl) 4 b s Gz_3992 := And.intro (uGz_3984 b (2 * s)) (uGz_3991 (b + s) (2 * s))
theorem uGz_3993 (b s : Nat) : xall (fun _ a => a ∈ lw_tbl) 5 b s Gz_3993 := And.intro (uGz_3977 b (2 * s)) (uGz_3992 (b + s) (2 * s))
theorem uGz_3994 (b s : Nat) : xall (fun _ a => a ∈ lw_tbl) 1 b s Gz_3994 := And.intro uz_95 uz_2143
theorem uGz_3995 (b s : Nat) : xall (fun _ a => a ∈ lw_tbl) 1 b s Gz_3995 := And.intro uz_1119 uz_0
theorem uGz_3996 (b s : Nat) : xall (fun _ a => a ∈ lw_tbl) 2 b s Gz_3996 := And.intro (uGz_3994 b (2 * s)) (uGz_3995 (b + s) (2 * s))
theorem uGz_3997 (b s : Nat) : xall (fun _ a => a ∈ lw_tbl) 1 b s Gz_3997 := And.intro uz_607 uz_0
theorem uGz_3998 (b s : Nat) : xall (fun _ a => a ∈ lw_tbl) 1 b s Gz_3998 := And.intro uz_1631 uz_0
theorem uGz_3999 (b s : Nat) : xall (fun _ a => a ∈ lw_tbl) 2 b s Gz_3999 := And.intro (uGz_3997 b (2 * s)) (uGz_3998 (b + s) (2 * s))
theorem uGz_4000 (b s : Nat) : xall (fun _ a => a ∈ lw_tbl) 3 b s Gz_4000 := And.intro (uGz_3996 b (2 * s)) (uGz_3999 (b + s) (2 * s))
theorem uGz_4001 (b s : Nat) : xall (fun _ a => a ∈ lw_tbl) 1 b s Gz_4001 := And.intro uz_351 uz_0
theorem uGz_4002 (b s : Nat) : xall (fun _ a => a ∈ lw_tbl) 1 b s Gz_4002 := And.intro uz_1375 uz_0
theorem uGz_4003 (b s : Nat) : xall (fun _ a => a ∈ lw_tbl) 2 b s Gz_4003 := And.intro (uGz_4001 b (2 * s)) (uGz_4002 (b + s) (2 * s))
theorem uGz_4004 (b s : Nat) : xall (fun _ a => a ∈ lw_tbl) 1 b s Gz_4004 := And.intro uz_863 uz_0
theorem uGz_4005 (b s : Nat) : xall (fun _ a => a ∈ lw_tbl) 1 b s Gz_4005 := And.intro uz_1887 uz_0
theorem uGz_4006 (b s : Nat) : xall (fun _ a => a ∈ lw_tbl) 2 b s Gz_4006 := And.intro (uGz_4004 b (2 * s)) (uGz_4005 (b + s) (2 * s))
theorem uGz_4007 (b s : Nat) : xall (fun _ a => a ∈ lw_tbl) 3 b s Gz_4007 := And.intro (uGz_4003 b (2 * s)) (uGz_4006 (b + s) (2 * s))
theorem uGz_4008 (b s : Nat) : xall (fun _ a => a ∈ lw_tbl) 4 b s Gz_4008 := And.intro (uGz_4000 b (2 * s)) (uGz_4007 (b + s) (2 * s))
theorem uGz_4009 (b s : Nat) : xall (fun _ a => a ∈ lw_tbl) 1 b s Gz_4009 := And.intro uz_223 uz_0
theorem uGz_4010 (b s : Nat) : xall (fun _ a => a ∈ lw_tbl) 1 b s Gz_4010 := And.intro uz_1247 uz_0
theorem uGz_4011 (b s : Nat) : xall (fun _ a => a ∈ lw_tbl) 2 b s Gz_4011 := And.intro (uGz_4009 b (2 * s)) (uGz_4010 (b + s) (2 * s))
theorem uGz_4012 (b s : Nat) : xall (fun _ a => a ∈ lw_tbl) 1 b s Gz_4012 := And.intro uz_735 uz_0
theorem uGz_4013 (b s : Nat) : xall (fun _ a => a ∈ lw_tbl) 1 b s Gz_4013 := And.intro uz_1759 uz_0
theorem uGz_4014 (b s : Nat) : xall (fun _ a => a ∈ lw_tbl) 2 b s Gz_4014 := And.intro (uGz_4012 b (2 * s)) (uGz_4013 (b + s) (2 * s))
theorem uGz_4015 (b s : Nat) : xall (fun _ a => a ∈ lw_tbl) 3 b s Gz_4015 := And.intro (uGz_4011 b (2 * s)) (uGz_4014 (b + s) (2 * s))
theorem uGz_4016 (b s : Nat) : xall (fun _ a => a ∈ lw_tbl) 1 b s Gz_4016 := And.intro uz_479 uz_0
theorem uGz_4017 (b s : Nat) : xall (fun _ a => a ∈ lw_tbl) 1 b s Gz_4017 := And.intro uz_1503 uz_0
theorem uGz_4018 (b s : Nat) : xall (fun _ a => a ∈ lw_tbl) 2 b s Gz_4018 := And.intro (uGz_4016 b (2 * s)) (uGz_4017 (b + s) (2 * s))
theorem uGz_4019 (b s : Nat) : xall (fun _ a => a ∈ lw_tbl) 1 b s Gz_4019 := And.intro uz_991 uz_0
theorem uGz_4020 (b s : Nat) : xall (fun _ a => a ∈ lw_tbl) 1 b s Gz_4020 := And.intro uz_2015 uz_0
theorem uGz_4021 (b s : Nat) : xall (fun _ a => a ∈ lw_tbl) 2 b s Gz_4021 := And.intro (uGz_4019 b (2 * s)) (uGz_4020 (b + s) (2 * s))
theorem uGz_4022 (b s : Nat) : xall (fun _ a => a ∈ lw_tbl) 3 b s Gz_4022 := And.intro (uGz_4018 b (2 * s)) (uGz_4021 (b + s) (2 * s))
theorem uGz_4023 (b s : Nat) : xall (fun _ a => a ∈ lw_tbl) 4 b s Gz_4023 := And.intro (uGz_4015 b (2 * s)) (uGz_4022 (b + s) (2 * s))
theorem uGz_4024 (b s : Nat) : xall (fun _ a => a ∈ lw_tbl) 5 b s Gz_4024 := And.intro (uGz_4008 b (2 * s)) (uGz_4023 (b + s) (2 * s))
theorem uGz_4025 (b s : Nat) : xall (fun _ a => a ∈ lw_tbl) 6 b s Gz_4025 := And.intro (uGz_3993 b (2 * s)) (uGz_4024 (b + s) (2 * s))
theorem uGz_4026 (b s : Nat) : xall (fun _ a => a ∈ lw_tbl) 1 b s Gz_4026 := And.intro uz_63 uz_2111
theorem uGz_4027 (b s : Nat) : xall (fun _ a => a ∈ lw_tbl) 1 b s Gz_4027 := And.intro uz_1087 uz_0
theorem uGz_4028 (b s : Nat) : xall (fun _ a => a ∈ lw_tbl) 2 b s Gz_4028 := And.intro (uGz_4026 b (2 * s)) (uGz_4027 (b + s) (2 * s))
theorem uGz_4029 (b s : Nat) : xall (fun _ a => a ∈ lw_tbl) 1 b s Gz_4029 := And.intro uz_575 uz_0
theorem uGz_4030 (b s : Nat) : xall (fun _ a => a ∈ lw_tbl) 1 b s Gz_4030 := And.intro uz_1599 uz_0
theorem uGz_4031 (b s : Nat) : xall (fun _ a => a ∈ lw_tbl) 2 b s Gz_4031 := And.intro (uGz_4029 b (2 * s)) (uGz_4030 (b + s) (2 * s))
theorem uGz_4032 (b s : Nat) : xall (fun _ a => a ∈ lw_tbl) 3 b s Gz_4032 := And.intro (uGz_4028 b (2 * s)) (uGz_4031 (b + s) (2 * s))
theorem uGz_4033 (b s : Nat) : xall (fun _ a => a ∈ lw_tbl) 1 b s Gz_4033 := And.intro uz_319 uz_0
theorem uGz_4034 (b s : Nat) : xall (fun _ a => a ∈ lw_tbl) 1 b s Gz_4034 := And.intro uz_1343 uz_0
theorem uGz_4035 (b s : Nat) : xall (fun _ a => a ∈ lw_tbl) 2 b s Gz_4035 := And.intro (uGz_4033 b (2 * s)) (uGz_4034 (b + s) (2 * s))
theorem uGz_4036 (b s : Nat) : xall (fun _ a => a ∈ lw_tbl) 1 b s Gz_4036 := And.intro uz_831 uz_0
theorem uGz_4037 (b s : Nat) : xall (fun _ a => a ∈ lw_tbl) 1 b s Gz_4037 := And.intro uz_1855 uz_0
theorem uGz_4038 (b s : Nat) : xall (fun _ a => a ∈ lw_tbl) 2 b s Gz_4038 := And.intro (uGz_4036 b (2 * s)) (uGz_4037 (b + s) (2 * s))
theorem uGz_4039 (b s : Nat) : xall (fun _ a => a ∈ lw_tbl) 3 b s Gz_4039 := And.intro (uGz_4035 b (2 * s)) (uGz_4038 (b + s) (2 * s))
theorem uGz_4040 (b s : Nat) : xall (fun _ a => a ∈ lw_tbl) 4 b s Gz_4040 := And.intro (uGz_4032 b (2 * s)) (uGz_4039 (b + s) (2 * s))
theorem uGz_4041 (b s : Nat) : xall (fun _ a => a ∈ lw_tbl) 1 b s Gz_4041 := And.intro uz_191 uz_2239
theorem uGz_4042 (b s : Nat) : xall (fun _ a => a ∈ lw_tbl) 1 b s Gz_4042 := And.intro uz_1215 uz_0
theorem uGz_4043 (b s : Nat) : xall (fun _ a => a ∈ lw_tbl) 2 b s Gz_4043 := And.intro (uGz_4041 b (2 * s)) (uGz_4042 (b + s) (2 * s))
theorem uGz_4044 (b s : Nat) : xall (fun _ a => a ∈ lw_tbl) 1 b s Gz_4044 := And.intro uz_703 uz_0
theorem uGz_4045 (b s : Nat) : xall (fun _ a => a ∈ lw_tbl) 1 b s Gz_4045 := And.intro uz_1727 uz_0
theorem uGz_4046 (b s : Nat) : xall (fun _ a => a ∈ lw_tbl) 2 b s Gz_4046 := And.intro (uGz_4044 b (2 * s)) (uGz_4045 (b + s) (2 * s))
theorem uGz_4047 (b s : Nat) : xall (fun _ a => a ∈ lw_tbl) 3 b s Gz_4047 := And.intro (uGz_4043 b (2 * s)) (uGz_4046 (b + s) (2 * s))
theorem uGz_4048 (b s : Nat) : xall (fun _ a => a ∈ lw_tbl) 1 b s Gz_4048 := And.intro uz_447 uz_0
theorem uGz_4049 (b s : Nat) : xall (fun _ a => a ∈ lw_tbl) 1 b s Gz_4049 := And.intro uz_1471 uz_0
theorem uGz_4050 (b s : Nat) : xall (fun _ a => a ∈ lw_tbl) 2 b s Gz_4050 := And.intro (uGz_4048 b (2 * s)) (uGz_4049 (b + s) (2 * s))
theorem uGz_4051 (b s : Nat) : xall (fun _ a => a ∈ lw_tbl) 1 b s Gz_4051 := And.intro uz_959 uz_0
theorem uGz_4052 (b s : Nat) : xall (fun _ a => a ∈ lw_tbl) 1 b s Gz_4052 := And.intro uz_1983 uz_0
theorem uGz_4053 (b s : Nat) : xall (fun _ a => a ∈ lw_tbl) 2 b s Gz_4053 := And.intro (uGz_4051 b (2 * s)) (uGz_4052 (b + s) (2 * s))
theorem uGz_4054 (b s : Nat) : xall (fun _ a => a ∈ lw_tbl) 3 b s Gz_4054 := And.intro (uGz_4050 b (2 * s)) (uGz_4053 (b + s) (2 * s))
theorem uGz_4055 (b s : Nat) : xall (fun _ a => a ∈ lw_tbl) 4 b s Gz_4055 := And.intro (uGz_4047 b (2 * s)) (uGz_4054 (b + s) (2 * s))
theorem uGz_4056 (b s : Nat) : xall (fun _ a => a ∈ lw_tbl) 5 b s Gz_4056 := And.intro (uGz_4040 b (2 * s)) (uGz_4055 (b + s) (2 * s))
theorem uGz_4057 (b s : Nat) : xall (fun _ a => a ∈ lw_tbl) 1 b s Gz_4057 := And.intro uz_127 uz_2175
theorem uGz_4058 (b s : Nat) : xall (fun _ a => a ∈ lw_tbl) 1 b s Gz_4058 := And.intro uz_1151 uz_0
theorem uGz_4059 (b s : Nat) : xall (fun _ a => a ∈ lw_tbl) 2 b s Gz_4059 := And.intro (uGz_4057 b (2 * s)) (uGz_4058 (b + s) (2 * s))
theorem uGz_4060 (b s : Nat) : xall (fun _ a => a ∈ lw_tbl) 1 b s Gz_4060 := And.intro uz_639 uz_0
theorem uGz_4061 (b s : Nat) : xall (fun _ a => a ∈ lw_tbl) 1 b s Gz_4061 := And.intro uz_1663 uz_0
theorem uGz_4062 (b s : Nat) : xall (fun _ a => a ∈ lw_tbl) 2 b s Gz_4062 := And.intro (uGz_4060 b (2 * s)) (uGz_4061 (b + s) (2 * s))
theorem uGz_4063 (b s : Nat) : xall (fun _ a => a ∈ lw_tbl) 3 b s Gz_4063 := And.intro (uGz_4059 b (2 * s)) (uGz_4062 (b + s) (2 * s))
theorem uGz_4064 (b s : Nat) : xall (fun _ a => a ∈ lw_tbl) 1 b s Gz_4064 := And.intro uz_383 uz_0
theorem uGz_4065 (b s : Nat) : xall (fun _ a => a ∈ lw_tbl) 1 b s Gz_4065 := And.intro uz_1407 uz_0
theorem uGz_4066 (b s : Nat) : xall (fun _ a => a ∈ lw_tbl) 2 b s Gz_4066 := And.intro (uGz_4064 b (2 * s)) (uGz_4065 (b + s) (2 * s))
theorem uGz_4067 (b s : Nat) : xall (fun _ a => a ∈ lw_tbl) 1 b s Gz_4067 := And.intro uz_895 uz_0
theorem uGz_4068 (b s : Nat) : xall (fun _ a => a ∈ lw_tbl) 1 b s Gz_4068 := And.intro uz_1919 uz_0
theorem uGz_4069 (b s : Nat) : xall (fun _ a => a ∈ lw_tbl) 2 b s Gz_4069 := And.intro (uGz_4067 b (2 * s)) (uGz_4068 (b + s) (2 * s))
theorem uGz_4070 (b s : Nat) : xall (fun _ a => a ∈ lw_tbl) 3 b s Gz_4070 := And.intro (uGz_4066 b (2 * s)) (uGz_4069 (b + s) (2 * s))
theorem uGz_4071 (b s : Nat) : xall (fun _ a => a ∈ lw_tbl) 4 b s Gz_4071 := And.intro (uGz_4063 b (2 * s)) (uGz_4070 (b + s) (2 * s))
theorem uGz_4072 (b s : Nat) : xall (fun _ a => a ∈ lw_tbl) 1 b s Gz_4072 := And.intro uz_255 uz_0
theorem uGz_4073 (b s : Nat) : xall (fun _ a => a ∈ lw_tbl) 1 b s Gz_4073 := And.intro uz_1279 uz_0
theorem uGz_4074 (b s : Nat) : xall (fun _ a => a ∈ lw_tbl) 2 b s Gz_4074 := And.intro (uGz_4072 b (2 * s)) (uGz_4073 (b + s) (2 * s))
theorem uGz_4075 (b s : Nat) : xall (fun _ a => a ∈ lw_tbl) 1 b s Gz_4075 := And.intro uz_767 uz_0
theorem uGz_4076 (b s : Nat) : xall (fun _ a => a ∈ lw_tbl) 1 b s Gz_4076 := And.intro uz_1791 uz_0
theorem uGz_4077 (b s : Nat) : xall (fun _ a => a ∈ lw_tbl) 2 b s Gz_4077 := And.intro (uGz_4075 b (2 * s)) (uGz_4076 (b + s) (2 * s))
theorem uGz_4078 (b s : Nat) : xall (fun _ a => a ∈ lw_tbl) 3 b s Gz_4078 := And.intro (uGz_4074 b (2 * s)) (uGz_4077 (b + s) (2 * s))
theorem uGz_4079 (b s : Nat) : xall (fun _ a => a ∈ lw_tbl) 1 b s Gz_4079 := And.intro uz_511 uz_0
theorem uGz_4080 (b s : Nat) : xall (fun _ a => a ∈ lw_tbl) 1 b s Gz_4080 := And.intro uz_1535 uz_0
theorem uGz_4081 (b s : Nat) : xall (fun _ a => a ∈ lw_tbl) 2 b s Gz_4081 := And.intro (uGz_4079 b (2 * s)) (uGz_4080 (b + s) (2 * s))
theorem uGz_4082 (b s : Nat) : xall (fun _ a => a ∈ lw_tbl) 1 b s Gz_4082 := And.intro uz_1023 uz_0
theorem uGz_4083 (b s : Nat) : xall (fun _ a => a ∈ lw_tbl) 1 b s Gz_4083 := And.intro uz_2047 uz_0
theorem uGz_4084 (b s : Nat) : xall (fun _ a => a ∈ lw_tbl) 2 b s Gz_4084 := And.intro (uGz_4082 b (2 * s)) (uGz_4083 (b + s) (2 * s))
theorem uGz_4085 (b s : Nat) : xall (fun _ a => a ∈ lw_tbl) 3 b s Gz_4085 := And.intro (uGz_4081 b (2 * s)) (uGz_4084 (b + s) (2 * s))
theorem uGz_4086 (b s : Nat) : xall (fun _ a => a ∈ lw_tbl) 4 b s Gz_4086 := And.intro (uGz_4078 b (2 * s)) (uGz_4085 (b + s) (2 * s))
theorem uGz_4087 (b s : Nat) : xall (fun _ a => a ∈ lw_tbl) 5 b s Gz_4087 := And.intro (uGz_4071 b (2 * s)) (uGz_4086 (b + s) (2 * s))
theorem uGz_4088 (b s : Nat) : xall (fun _ a => a ∈ lw_tbl) 6 b s Gz_4088 := And.intro (uGz_4056 b (2 * s)) (uGz_4087 (b + s) (2 * s))
theorem uGz_4089 (b s : Nat) : xall (fun _ a => a ∈ lw_tbl) 7 b s Gz_4089 := And.intro (uGz_4025 b (2 * s)) (uGz_4088 (b + s) (2 * s))
theorem uGz_4090 (b s : Nat) : xall (fun _ a => a ∈ lw_tbl) 8 b s Gz_4090 := And.intro (uGz_3962 b (2 * s)) (uGz_4089 (b + s) (2 * s))
theorem uGz_4091 (b s : Nat) : xall (fun _ a => a ∈ lw_tbl) 9 b s Gz_4091 := And.intro (uGz_3835 b (2 * s)) (uGz_4090 (b + s) (2 * s))
theorem uGz_4092 (b s : Nat) : xall (fun _ a => a ∈ lw_tbl) 10 b s Gz_4092 := And.intro (uGz_3580 b (2 * s)) (uGz_4091 (b + s) (2 * s))
theorem uGz_4093 (b s : Nat) : xall (fun _ a => a ∈ lw_tbl) 11 b s Gz_4093 := And.intro (uGz_3069 b (2 * s)) (uGz_4092 (b + s) (2 * s))
theorem uGz (b s : Nat) : xall (fun _ a => a ∈ lw_tbl) 12 b s Gz := And.intro (uGz_2046 b (2 * s)) (uGz_4093 (b + s) (2 * s))
theorem sub_GWz : ∀ w ∈ GWz, w ∈ lw_tbl := fun w hw => by
  obtain ⟨i, -, rfl⟩ := List.mem_map.mp hw
  exact xall_one (P := fun a => a ∈ lw_tbl) 12 0 1 Gz (uGz 0 1) i
