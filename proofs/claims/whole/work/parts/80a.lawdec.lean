theorem q_dk_L0 : ∀ q ∈ q_tL0, decode cL_law q.1 = .ok q.2 := by decide +kernel
theorem q_dk_L1 : ∀ q ∈ q_tL1, decode cL_law q.1 = .ok q.2 := by decide +kernel
theorem q_dk_L2 : ∀ q ∈ q_tL2, decode cL_law q.1 = .ok q.2 := by decide +kernel
theorem q_dk_L3 : ∀ q ∈ q_tL3, decode cL_law q.1 = .ok q.2 := by decide +kernel
theorem q_dk_L4 : ∀ q ∈ q_tL4, decode cL_law q.1 = .ok q.2 := by decide +kernel
theorem q_dk_L5 : ∀ q ∈ q_tL5, decode cL_law q.1 = .ok q.2 := by decide +kernel
theorem q_dk_L6 : ∀ q ∈ q_tL6, decode cL_law q.1 = .ok q.2 := by decide +kernel
theorem q_dk_L7 : ∀ q ∈ q_tL7, decode cL_law q.1 = .ok q.2 := by decide +kernel
theorem q_dk_L8 : ∀ q ∈ q_tL8, decode cL_law q.1 = .ok q.2 := by decide +kernel
theorem q_dk_L9 : ∀ q ∈ q_tL9, decode cL_law q.1 = .ok q.2 := by decide +kernel
theorem q_dk_L10 : ∀ q ∈ q_tL10, decode cL_law q.1 = .ok q.2 := by decide +kernel
theorem q_dk_L11 : ∀ q ∈ q_tL11, decode cL_law q.1 = .ok q.2 := by decide +kernel
theorem q_dk_L12 : ∀ q ∈ q_tL12, decode cL_law q.1 = .ok q.2 := by decide +kernel
theorem q_dk_L13 : ∀ q ∈ q_tL13, decode cL_law q.1 = .ok q.2 := by decide +kernel
theorem q_dk_L14 : ∀ q ∈ q_tL14, decode cL_law q.1 = .ok q.2 := by decide +kernel
theorem q_dk_L_law : ∀ q ∈ q_t_L_law, decode cL_law q.1 = .ok q.2 := by
  unfold q_t_L_law
  exact List.forall_mem_append.mpr ⟨q_dk_L0, List.forall_mem_append.mpr ⟨q_dk_L1, List.forall_mem_append.mpr ⟨q_dk_L2, List.forall_mem_append.mpr ⟨q_dk_L3, List.forall_mem_append.mpr ⟨q_dk_L4, List.forall_mem_append.mpr ⟨q_dk_L5, List.forall_mem_append.mpr ⟨q_dk_L6, List.forall_mem_append.mpr ⟨q_dk_L7, List.forall_mem_append.mpr ⟨q_dk_L8, List.forall_mem_append.mpr ⟨q_dk_L9, List.forall_mem_append.mpr ⟨q_dk_L10, List.forall_mem_append.mpr ⟨q_dk_L11, List.forall_mem_append.mpr ⟨q_dk_L12, List.forall_mem_append.mpr ⟨q_dk_L13, q_dk_L14⟩⟩⟩⟩⟩⟩⟩⟩⟩⟩⟩⟩⟩⟩
