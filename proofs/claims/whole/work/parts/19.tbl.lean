set_option maxRecDepth 20000 in
theorem wt_r1 : ∀ w ∈ wc_r1, w ∈ lw_tbl := by decide +kernel
set_option maxRecDepth 20000 in
theorem wt_r2 : ∀ w ∈ wc_r2, w ∈ lw_tbl := by decide +kernel
set_option maxRecDepth 20000 in
theorem wt_r3 : ∀ w ∈ wc_r3, w ∈ lw_tbl := by decide +kernel
set_option maxRecDepth 20000 in
theorem wt_r4 : ∀ w ∈ wc_r4, w ∈ lw_tbl := by decide +kernel
set_option maxRecDepth 20000 in
theorem wt_r5 : ∀ w ∈ wc_r5, w ∈ lw_tbl := by decide +kernel
set_option maxRecDepth 20000 in
theorem wt_r6 : ∀ w ∈ wc_r6, w ∈ lw_tbl := by decide +kernel
set_option maxRecDepth 20000 in
theorem wt_r7 : ∀ w ∈ wc_r7, w ∈ lw_tbl := by decide +kernel
set_option maxRecDepth 20000 in
theorem wt_r8 : ∀ w ∈ wc_r8, w ∈ lw_tbl := by decide +kernel
set_option maxRecDepth 20000 in
theorem wt_r9 : ∀ w ∈ wc_r9, w ∈ lw_tbl := by decide +kernel
set_option maxRecDepth 20000 in
theorem wt_r10 : ∀ w ∈ wc_r10, w ∈ lw_tbl := by decide +kernel
set_option maxRecDepth 20000 in
theorem wt_r11 : ∀ w ∈ wc_r11, w ∈ lw_tbl := by decide +kernel
set_option maxRecDepth 20000 in
theorem wt_r12 : ∀ w ∈ wc_r12, w ∈ lw_tbl := by decide +kernel
set_option maxRecDepth 20000 in
theorem wt_r13 : ∀ w ∈ wc_r13, w ∈ lw_tbl := by decide +kernel
set_option maxRecDepth 20000 in
theorem wt_r14 : ∀ w ∈ wc_r14, w ∈ lw_tbl := by decide +kernel
set_option maxRecDepth 20000 in
theorem wt_r15 : ∀ w ∈ wc_r15, w ∈ lw_tbl := by decide +kernel
set_option maxRecDepth 20000 in
theorem wt_r16 : ∀ w ∈ wc_r16, w ∈ lw_tbl := by decide +kernel
set_option maxRecDepth 20000 in
theorem wt_r17 : ∀ w ∈ wc_r17, w ∈ lw_tbl := by decide +kernel
set_option maxRecDepth 20000 in
theorem wt_r18 : ∀ w ∈ wc_r18, w ∈ lw_tbl := by decide +kernel
set_option maxRecDepth 20000 in
theorem wt_r19 : ∀ w ∈ wc_r19, w ∈ lw_tbl := by decide +kernel
set_option maxRecDepth 20000 in
theorem wt_r20 : ∀ w ∈ wc_r20, w ∈ lw_tbl := by decide +kernel
set_option maxRecDepth 20000 in
theorem wt_r21 : ∀ w ∈ wc_r21, w ∈ lw_tbl := by decide +kernel
set_option maxRecDepth 20000 in
theorem wt_r22 : ∀ w ∈ wc_r22, w ∈ lw_tbl := by decide +kernel
set_option maxRecDepth 20000 in
theorem wt_r23 : ∀ w ∈ wc_r23, w ∈ lw_tbl := by decide +kernel
set_option maxRecDepth 20000 in
theorem wt_r24 : ∀ w ∈ wc_r24, w ∈ lw_tbl := by decide +kernel
set_option maxRecDepth 20000 in
theorem wt_r25 : ∀ w ∈ wc_r25, w ∈ lw_tbl := by decide +kernel
set_option maxRecDepth 20000 in
theorem wt_r26 : ∀ w ∈ wc_r26, w ∈ lw_tbl := by decide +kernel
set_option maxRecDepth 20000 in
theorem wt_r27 : ∀ w ∈ wc_r27, w ∈ lw_tbl := by decide +kernel
set_option maxRecDepth 20000 in
theorem wt_r28 : ∀ w ∈ wc_r28, w ∈ lw_tbl := by decide +kernel
set_option maxRecDepth 20000 in
theorem wt_r29 : ∀ w ∈ wc_r29, w ∈ lw_tbl := by decide +kernel
set_option maxRecDepth 20000 in
theorem wt_r30 : ∀ w ∈ wc_r30, w ∈ lw_tbl := by decide +kernel
set_option maxRecDepth 20000 in
theorem wt_r31 : ∀ w ∈ wc_r31, w ∈ lw_tbl := by decide +kernel
set_option maxRecDepth 20000 in
theorem wt_r32 : ∀ w ∈ wc_r32, w ∈ lw_tbl := by decide +kernel
set_option maxRecDepth 20000 in
theorem wt_r33 : ∀ w ∈ wc_r33, w ∈ lw_tbl := by decide +kernel
set_option maxRecDepth 20000 in
theorem wt_r34 : ∀ w ∈ wc_r34, w ∈ lw_tbl := by decide +kernel
set_option maxRecDepth 20000 in
theorem wt_r35 : ∀ w ∈ wc_r35, w ∈ lw_tbl := by decide +kernel
set_option maxRecDepth 20000 in
theorem wt_r36 : ∀ w ∈ wc_r36, w ∈ lw_tbl := by decide +kernel
set_option maxRecDepth 20000 in
theorem wt_r37 : ∀ w ∈ wc_r37, w ∈ lw_tbl := by decide +kernel
set_option maxRecDepth 20000 in
theorem wt_r38 : ∀ w ∈ wc_r38, w ∈ lw_tbl := by decide +kernel
set_option maxRecDepth 20000 in
theorem wt_r39 : ∀ w ∈ wc_r39, w ∈ lw_tbl := by decide +kernel
set_option maxRecDepth 20000 in
theorem wt_r40 : ∀ w ∈ wc_r40, w ∈ lw_tbl := by decide +kernel
set_option maxRecDepth 20000 in
theorem wt_r41 : ∀ w ∈ wc_r41, w ∈ lw_tbl := by decide +kernel
set_option maxRecDepth 20000 in
theorem wt_r42 : ∀ w ∈ wc_r42, w ∈ lw_tbl := by decide +kernel
set_option maxRecDepth 20000 in
theorem wt_r43 : ∀ w ∈ wc_r43, w ∈ lw_tbl := by decide +kernel
set_option maxRecDepth 20000 in
theorem wt_r44 : ∀ w ∈ wc_r44, w ∈ lw_tbl := by decide +kernel
set_option maxRecDepth 20000 in
theorem wt_r45 : ∀ w ∈ wc_r45, w ∈ lw_tbl := by decide +kernel
set_option maxRecDepth 20000 in
theorem wt_r46 : ∀ w ∈ wc_r46, w ∈ lw_tbl := by decide +kernel
set_option maxRecDepth 20000 in
theorem wt_r47 : ∀ w ∈ wc_r47, w ∈ lw_tbl := by decide +kernel
set_option maxRecDepth 20000 in
theorem wt_r48 : ∀ w ∈ wc_r48, w ∈ lw_tbl := by decide +kernel
set_option maxRecDepth 20000 in
theorem wt_r49 : ∀ w ∈ wc_r49, w ∈ lw_tbl := by decide +kernel
set_option maxRecDepth 20000 in
theorem wt_r50 : ∀ w ∈ wc_r50, w ∈ lw_tbl := by decide +kernel
set_option maxRecDepth 20000 in
theorem wt_r51 : ∀ w ∈ wc_r51, w ∈ lw_tbl := by decide +kernel
set_option maxRecDepth 20000 in
theorem wt_r52 : ∀ w ∈ wc_r52, w ∈ lw_tbl := by decide +kernel
set_option maxRecDepth 20000 in
theorem wt_r53 : ∀ w ∈ wc_r53, w ∈ lw_tbl := by decide +kernel
set_option maxRecDepth 20000 in
theorem wt_r54 : ∀ w ∈ wc_r54, w ∈ lw_tbl := by decide +kernel
set_option maxRecDepth 20000 in
theorem wt_r55 : ∀ w ∈ wc_r55, w ∈ lw_tbl := by decide +kernel
set_option maxRecDepth 20000 in
theorem wt_r56 : ∀ w ∈ wc_r56, w ∈ lw_tbl := by decide +kernel
set_option maxRecDepth 20000 in
theorem wt_r57 : ∀ w ∈ wc_r57, w ∈ lw_tbl := by decide +kernel
set_option maxRecDepth 20000 in
theorem wt_r58 : ∀ w ∈ wc_r58, w ∈ lw_tbl := by decide +kernel
set_option maxRecDepth 20000 in
theorem wt_r59 : ∀ w ∈ wc_r59, w ∈ lw_tbl := by decide +kernel
set_option maxRecDepth 20000 in
theorem wt_r60 : ∀ w ∈ wc_r60, w ∈ lw_tbl := by decide +kernel
set_option maxRecDepth 20000 in
theorem wt_r61 : ∀ w ∈ wc_r61, w ∈ lw_tbl := by decide +kernel
theorem wt_wsX110 : ∀ w ∈ wsX110, w ∈ lw_tbl := by decide +kernel
theorem wt_wsX120 : ∀ w ∈ wsX120, w ∈ lw_tbl := by decide +kernel
theorem wt_wsX30 : ∀ w ∈ wsX30, w ∈ lw_tbl := by decide +kernel
theorem wt_wsX90 : ∀ w ∈ wsX90, w ∈ lw_tbl := by decide +kernel
theorem wt_wsX10 : ∀ w ∈ wsX10, w ∈ lw_tbl := by decide +kernel
theorem wt_wsX60 : ∀ w ∈ wsX60, w ∈ lw_tbl := by decide +kernel
theorem wt_wsX100 : ∀ w ∈ wsX100, w ∈ lw_tbl := by decide +kernel
theorem wt_wsX20 : ∀ w ∈ wsX20, w ∈ lw_tbl := by decide +kernel
theorem wt_wsX40 : ∀ w ∈ wsX40, w ∈ lw_tbl := by decide +kernel
theorem wt_wsX70 : ∀ w ∈ wsX70, w ∈ lw_tbl := by decide +kernel
theorem wt_wsX00 : ∀ w ∈ wsX00, w ∈ lw_tbl := by decide +kernel
theorem wt_wsX50 : ∀ w ∈ wsX50, w ∈ lw_tbl := by decide +kernel
theorem wt_B : ∀ w ∈ wsB, w ∈ lw_tbl := fun w h => (List.mem_append.mp h).elim (wt_r1 w) (fun h => (List.mem_append.mp h).elim (wt_r2 w) (fun h => (List.mem_append.mp h).elim (wt_r3 w) (fun h => (List.mem_append.mp h).elim (wt_r4 w) (fun h => (List.mem_append.mp h).elim (wt_r5 w) (fun h => (List.mem_append.mp h).elim (wt_r6 w) (fun h => (List.mem_append.mp h).elim (wt_r7 w) (fun h => (List.mem_append.mp h).elim (wt_r8 w) (fun h => (List.mem_append.mp h).elim (wt_r9 w) (fun h => (List.mem_append.mp h).elim (wt_r10 w) (fun h => (List.mem_append.mp h).elim (wt_r11 w) (fun h => (List.mem_append.mp h).elim (wt_r12 w) (fun h => (List.mem_append.mp h).elim (wt_r13 w) (fun h => (List.mem_append.mp h).elim (wt_r14 w) (fun h => (List.mem_append.mp h).elim (wt_r15 w) (fun h => (List.mem_append.mp h).elim (wt_r16 w) (fun h => (List.mem_append.mp h).elim (wt_r17 w) (fun h => (List.mem_append.mp h).elim (wt_r18 w) (fun h => (List.mem_append.mp h).elim (wt_r19 w) (fun h => (List.mem_append.mp h).elim (wt_r20 w) (fun h => (List.mem_append.mp h).elim (wt_r21 w) (fun h => (List.mem_append.mp h).elim (wt_r22 w) (fun h => (List.mem_append.mp h).elim (wt_r23 w) (fun h => (List.mem_append.mp h).elim (wt_r24 w) (fun h => (List.mem_append.mp h).elim (wt_r25 w) (fun h => (List.mem_append.mp h).elim (wt_r26 w) (fun h => (List.mem_append.mp h).elim (wt_r27 w) (fun h => (List.mem_append.mp h).elim (wt_r28 w) (fun h => (List.mem_append.mp h).elim (wt_r29 w) (fun h => (List.mem_append.mp h).elim (wt_r30 w) (fun h => (List.mem_append.mp h).elim (wt_r31 w) (fun h => (List.mem_append.mp h).elim (wt_r32 w) (fun h => (List.mem_append.mp h).elim (wt_r33 w) (fun h => (List.mem_append.mp h).elim (wt_r34 w) (fun h => (List.mem_append.mp h).elim (wt_r35 w) (fun h => (List.mem_append.mp h).elim (wt_r36 w) (fun h => (List.mem_append.mp h).elim (wt_r37 w) (fun h => (List.mem_append.mp h).elim (wt_r38 w) (fun h => (List.mem_append.mp h).elim (wt_r39 w) (fun h => (List.mem_append.mp h).elim (wt_r40 w) (fun h => (List.mem_append.mp h).elim (wt_r41 w) (fun h => (List.mem_append.mp h).elim (wt_r42 w) (fun h => (List.mem_append.mp h).elim (wt_r43 w) (fun h => (List.mem_append.mp h).elim (wt_r44 w) (fun h => (List.mem_append.mp h).elim (wt_r45 w) (fun h => (List.mem_append.mp h).elim (wt_r46 w) (fun h => (List.mem_append.mp h).elim (wt_r47 w) (fun h => (List.mem_append.mp h).elim (wt_r48 w) (fun h => (List.mem_append.mp h).elim (wt_r49 w) (fun h => (List.mem_append.mp h).elim (wt_r50 w) (fun h => (List.mem_append.mp h).elim (wt_r51 w) (fun h => (List.mem_append.mp h).elim (wt_r52 w) (fun h => (List.mem_append.mp h).elim (wt_r53 w) (fun h => (List.mem_append.mp h).elim (wt_r54 w) (fun h => (List.mem_append.mp h).elim (wt_r55 w) (fun h => (List.mem_append.mp h).elim (wt_r56 w) (fun h => (List.mem_append.mp h).elim (wt_r57 w) (fun h => (List.mem_append.mp h).elim (wt_r58 w) (fun h => (List.mem_append.mp h).elim (wt_r59 w) (fun h => (List.mem_append.mp h).elim (wt_r60 w) (fun h => wt_r61 w h))))))))))))))))))))))))))))))))))))))))))))))))))))))))))))
theorem wt_Y : ∀ w ∈ wsY, w ∈ lw_tbl := fun w h => (List.mem_append.mp h).elim (wt_wsX110 w) (fun h => (List.mem_append.mp h).elim (wt_wsX120 w) (fun h => (List.mem_append.mp h).elim (wt_wsX30 w) (fun h => (List.mem_append.mp h).elim (wt_wsX90 w) (fun h => (List.mem_append.mp h).elim (wt_wsX10 w) (fun h => (List.mem_append.mp h).elim (wt_wsX60 w) (fun h => (List.mem_append.mp h).elim (wt_wsX100 w) (fun h => (List.mem_append.mp h).elim (wt_wsX20 w) (fun h => (List.mem_append.mp h).elim (wt_wsX40 w) (fun h => (List.mem_append.mp h).elim (wt_wsX70 w) (fun h => (List.mem_append.mp h).elim (wt_wsX00 w) (fun h => wt_wsX50 w h)))))))))))
theorem wt_A : ∀ w ∈ wsA, w ∈ lw_tbl := fun w h => (List.mem_append.mp h).elim (wt_B w) (wt_Y w)
