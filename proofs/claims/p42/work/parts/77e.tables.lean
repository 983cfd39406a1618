/-! ===== the law's list is in the tables ===== -/
set_option maxRecDepth 20000 in
theorem twsX80 : ∀ w ∈ wsX80, w ∈ lw_tbl := by decide +kernel
set_option maxRecDepth 20000 in
theorem twsX20 : ∀ w ∈ wsX20, w ∈ lw_tbl := by decide +kernel
set_option maxRecDepth 20000 in
theorem twsX50 : ∀ w ∈ wsX50, w ∈ lw_tbl := by decide +kernel
set_option maxRecDepth 20000 in
theorem twsX00 : ∀ w ∈ wsX00, w ∈ lw_tbl := by decide +kernel
set_option maxRecDepth 20000 in
theorem twsX30 : ∀ w ∈ wsX30, w ∈ lw_tbl := by decide +kernel
set_option maxRecDepth 20000 in
theorem twsX70 : ∀ w ∈ wsX70, w ∈ lw_tbl := by decide +kernel
set_option maxRecDepth 20000 in
theorem twsX10 : ∀ w ∈ wsX10, w ∈ lw_tbl := by decide +kernel
set_option maxRecDepth 20000 in
theorem twsX40 : ∀ w ∈ wsX40, w ∈ lw_tbl := by decide +kernel
theorem t_all : ∀ w ∈ wsL_law, w ∈ lw_tbl := List.forall_mem_append.mpr ⟨List.forall_mem_append.mpr ⟨List.forall_mem_append.mpr ⟨List.forall_mem_append.mpr ⟨List.forall_mem_append.mpr ⟨List.forall_mem_append.mpr ⟨List.forall_mem_append.mpr ⟨List.forall_mem_append.mpr ⟨List.forall_mem_append.mpr ⟨List.forall_mem_append.mpr ⟨twsL_law_r1, List.forall_mem_append.mpr ⟨twsL_law_r2, List.forall_mem_append.mpr ⟨twsL_law_r3, List.forall_mem_append.mpr ⟨twsL_law_r4, List.forall_mem_append.mpr ⟨twsL_law_r5, List.forall_mem_append.mpr ⟨twsL_law_r6, List.forall_mem_append.mpr ⟨twsL_law_r7, List.forall_mem_append.mpr ⟨twsL_law_r8, List.forall_mem_append.mpr ⟨twsL_law_r9, List.forall_mem_append.mpr ⟨twsL_law_r10, List.forall_mem_append.mpr ⟨twsL_law_r11, List.forall_mem_append.mpr ⟨twsL_law_r12, List.forall_mem_append.mpr ⟨twsL_law_r13, List.forall_mem_append.mpr ⟨twsL_law_r14, List.forall_mem_append.mpr ⟨twsL_law_r15, List.forall_mem_append.mpr ⟨twsL_law_r16, List.forall_mem_append.mpr ⟨twsL_law_r17, twsL_law_r18⟩⟩⟩⟩⟩⟩⟩⟩⟩⟩⟩⟩⟩⟩⟩⟩⟩, twsX80⟩, twsX20⟩, twsX50⟩, twsX00⟩, twsX30⟩, twsX70⟩, twsX10⟩, twsX40⟩, fun _ h => absurd h List.not_mem_nil⟩
