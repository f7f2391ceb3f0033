theorem e_LI_init_0 : okE R_LI 1 b_LI_init (0, (.aload_n 0, 1, 0, 0, 0, 0, 0, [])) := ⟨by decide +kernel, rfl, rfl⟩
theorem e_LI_init_1 : okE R_LI 1 b_LI_init (1, (.invokespecial 3, 4, 0, 0, 0, 0, 0, [])) := ⟨by decide +kernel, rfl, trivial⟩
theorem e_LI_init_4 : okE R_LI 1 b_LI_init (4, (.return_, 5, 0, 0, 0, 0, 0, [])) := ⟨by decide +kernel, rfl, trivial⟩
def k_LI_init : List (Nat × En) := [(0, (.aload_n 0, 1, 0, 0, 0, 0, 0, [])), (1, (.invokespecial 3, 4, 0, 0, 0, 0, 0, [])), (4, (.return_, 5, 0, 0, 0, 0, 0, []))]
set_option maxRecDepth 100000 in
theorem ok_LI_init : ∀ x ∈ k_LI_init, okE R_LI 1 b_LI_init x := fc e_LI_init_0 (fc e_LI_init_1 (fc e_LI_init_4 (fun _ h => absurd h List.not_mem_nil)))
theorem rt_LI_init : ∀ x ∈ k_LI_init, okR 3 x.2.1 = true := by decide +kernel
theorem e_LI_become_0 : okE R_LI 0 b_LI_become (0, (.aload_n 0, 1, 0, 0, 0, 0, 0, [])) := ⟨by decide +kernel, rfl, rfl⟩
theorem e_LI_become_1 : okE R_LI 0 b_LI_become (1, (.iload_n 1, 2, 0, 0, 1, 0, 0, [])) := ⟨by decide +kernel, rfl, rfl⟩
theorem e_LI_become_2 : okE R_LI 0 b_LI_become (2, (.putfield 9, 5, 0, 0, 5, 0, 0, [])) := ⟨by decide +kernel, rfl, ⟨⟨_, _, _, rfl, by decide, wf_LI_9, rfl, rfl⟩, ⟨_, _, _, rfl, Or.inl rfl, tk_LI.1 0 (by decide)⟩⟩⟩
theorem e_LI_become_5 : okE R_LI 0 b_LI_become (5, (.aload_n 0, 6, 0, 0, 0, 0, 0, [])) := ⟨by decide +kernel, rfl, rfl⟩
theorem e_LI_become_6 : okE R_LI 0 b_LI_become (6, (.iload_n 2, 7, 0, 0, 2, 0, 0, [])) := ⟨by decide +kernel, rfl, rfl⟩
theorem e_LI_become_7 : okE R_LI 0 b_LI_become (7, (.putfield 15, 10, 0, 0, 5, 1, 0, [])) := ⟨by decide +kernel, rfl, ⟨⟨_, _, _, rfl, by decide, wf_LI_15, rfl, rfl⟩, ⟨_, _, _, rfl, Or.inl rfl, tk_LI.1 1 (by decide)⟩⟩⟩
theorem e_LI_become_10 : okE R_LI 0 b_LI_become (10, (.aload_n 0, 11, 0, 0, 0, 0, 0, [])) := ⟨by decide +kernel, rfl, rfl⟩
theorem e_LI_become_11 : okE R_LI 0 b_LI_become (11, (.iload_n 3, 12, 0, 0, 3, 0, 0, [])) := ⟨by decide +kernel, rfl, rfl⟩
theorem e_LI_become_12 : okE R_LI 0 b_LI_become (12, (.putfield 18, 15, 0, 0, 5, 2, 0, [])) := ⟨by decide +kernel, rfl, ⟨⟨_, _, _, rfl, by decide, wf_LI_18, rfl, rfl⟩, ⟨_, _, _, rfl, Or.inl rfl, tk_LI.1 2 (by decide)⟩⟩⟩
theorem e_LI_become_15 : okE R_LI 0 b_LI_become (15, (.aload_n 0, 16, 0, 0, 0, 0, 0, [])) := ⟨by decide +kernel, rfl, rfl⟩
theorem e_LI_become_16 : okE R_LI 0 b_LI_become (16, (.iload 4, 18, 0, 0, 4, 0, 0, [])) := ⟨by decide +kernel, rfl, rfl⟩
theorem e_LI_become_18 : okE R_LI 0 b_LI_become (18, (.putfield 21, 21, 0, 0, 5, 3, 3, [])) := ⟨by decide +kernel, rfl, ⟨⟨_, _, _, rfl, by decide, wf_LI_21, rfl, rfl⟩, ⟨_, _, _, rfl, Or.inl rfl, tk_LI.1 3 (by decide)⟩⟩⟩
theorem e_LI_become_21 : okE R_LI 0 b_LI_become (21, (.return_, 22, 0, 0, 0, 0, 0, [])) := ⟨by decide +kernel, rfl, trivial⟩
def k_LI_become : List (Nat × En) := [(0, (.aload_n 0, 1, 0, 0, 0, 0, 0, [])), (1, (.iload_n 1, 2, 0, 0, 1, 0, 0, [])), (2, (.putfield 9, 5, 0, 0, 5, 0, 0, [])), (5, (.aload_n 0, 6, 0, 0, 0, 0, 0, [])), (6, (.iload_n 2, 7, 0, 0, 2, 0, 0, [])), (7, (.putfield 15, 10, 0, 0, 5, 1, 0, [])), (10, (.aload_n 0, 11, 0, 0, 0, 0, 0, [])), (11, (.iload_n 3, 12, 0, 0, 3, 0, 0, [])), (12, (.putfield 18, 15, 0, 0, 5, 2, 0, [])), (15, (.aload_n 0, 16, 0, 0, 0, 0, 0, [])), (16, (.iload 4, 18, 0, 0, 4, 0, 0, [])), (18, (.putfield 21, 21, 0, 0, 5, 3, 3, [])), (21, (.return_, 22, 0, 0, 0, 0, 0, []))]
set_option maxRecDepth 100000 in
theorem ok_LI_become : ∀ x ∈ k_LI_become, okE R_LI 0 b_LI_become x := fc e_LI_become_0 (fc e_LI_become_1 (fc e_LI_become_2 (fc e_LI_become_5 (fc e_LI_become_6 (fc e_LI_become_7 (fc e_LI_become_10 (fc e_LI_become_11 (fc e_LI_become_12 (fc e_LI_become_15 (fc e_LI_become_16 (fc e_LI_become_18 (fc e_LI_become_21 (fun _ h => absurd h List.not_mem_nil)))))))))))))
theorem rt_LI_become : ∀ x ∈ k_LI_become, okR 3 x.2.1 = true := by decide +kernel
theorem e_LI_copyOf_0 : okE R_LI 0 b_LI_copyOf (0, (.aload_n 0, 1, 0, 0, 0, 0, 0, [])) := ⟨by decide +kernel, rfl, rfl⟩
theorem e_LI_copyOf_1 : okE R_LI 0 b_LI_copyOf (1, (.aload_n 1, 2, 0, 0, 1, 0, 0, [])) := ⟨by decide +kernel, rfl, rfl⟩
theorem e_LI_copyOf_2 : okE R_LI 0 b_LI_copyOf (2, (.getfield 9, 5, 0, 0, 5, 0, 0, [])) := ⟨by decide +kernel, rfl, ⟨_, _, _, rfl, by decide, wf_LI_9, rfl, rfl⟩⟩
theorem e_LI_copyOf_5 : okE R_LI 0 b_LI_copyOf (5, (.aload_n 1, 6, 0, 0, 1, 0, 0, [])) := ⟨by decide +kernel, rfl, rfl⟩
theorem e_LI_copyOf_6 : okE R_LI 0 b_LI_copyOf (6, (.getfield 15, 9, 0, 0, 5, 1, 0, [])) := ⟨by decide +kernel, rfl, ⟨_, _, _, rfl, by decide, wf_LI_15, rfl, rfl⟩⟩
theorem e_LI_copyOf_9 : okE R_LI 0 b_LI_copyOf (9, (.aload_n 1, 10, 0, 0, 1, 0, 0, [])) := ⟨by decide +kernel, rfl, rfl⟩
theorem e_LI_copyOf_10 : okE R_LI 0 b_LI_copyOf (10, (.getfield 18, 13, 0, 0, 5, 2, 0, [])) := ⟨by decide +kernel, rfl, ⟨_, _, _, rfl, by decide, wf_LI_18, rfl, rfl⟩⟩
theorem e_LI_copyOf_13 : okE R_LI 0 b_LI_copyOf (13, (.aload_n 1, 14, 0, 0, 1, 0, 0, [])) := ⟨by decide +kernel, rfl, rfl⟩
theorem e_LI_copyOf_14 : okE R_LI 0 b_LI_copyOf (14, (.getfield 21, 17, 0, 0, 5, 3, 3, [])) := ⟨by decide +kernel, rfl, ⟨_, _, _, rfl, by decide, wf_LI_21, rfl, rfl⟩⟩
theorem e_LI_copyOf_17 : okE R_LI 0 b_LI_copyOf (17, (.invokevirtual 25, 20, 0, 0, 0, 0, 0, [])) := ⟨by decide +kernel, rfl, trivial⟩
theorem e_LI_copyOf_20 : okE R_LI 0 b_LI_copyOf (20, (.return_, 21, 0, 0, 0, 0, 0, [])) := ⟨by decide +kernel, rfl, trivial⟩
def k_LI_copyOf : List (Nat × En) := [(0, (.aload_n 0, 1, 0, 0, 0, 0, 0, [])), (1, (.aload_n 1, 2, 0, 0, 1, 0, 0, [])), (2, (.getfield 9, 5, 0, 0, 5, 0, 0, [])), (5, (.aload_n 1, 6, 0, 0, 1, 0, 0, [])), (6, (.getfield 15, 9, 0, 0, 5, 1, 0, [])), (9, (.aload_n 1, 10, 0, 0, 1, 0, 0, [])), (10, (.getfield 18, 13, 0, 0, 5, 2, 0, [])), (13, (.aload_n 1, 14, 0, 0, 1, 0, 0, [])), (14, (.getfield 21, 17, 0, 0, 5, 3, 3, [])), (17, (.invokevirtual 25, 20, 0, 0, 0, 0, 0, [])), (20, (.return_, 21, 0, 0, 0, 0, 0, []))]
set_option maxRecDepth 100000 in
theorem ok_LI_copyOf : ∀ x ∈ k_LI_copyOf, okE R_LI 0 b_LI_copyOf x := fc e_LI_copyOf_0 (fc e_LI_copyOf_1 (fc e_LI_copyOf_2 (fc e_LI_copyOf_5 (fc e_LI_copyOf_6 (fc e_LI_copyOf_9 (fc e_LI_copyOf_10 (fc e_LI_copyOf_13 (fc e_LI_copyOf_14 (fc e_LI_copyOf_17 (fc e_LI_copyOf_20 (fun _ h => absurd h List.not_mem_nil)))))))))))
theorem rt_LI_copyOf : ∀ x ∈ k_LI_copyOf, okR 3 x.2.1 = true := by decide +kernel
theorem e_LI_variables_0 : okE R_LI 0 b_LI_variables (0, (.aload_n 0, 1, 0, 0, 0, 0, 0, [])) := ⟨by decide +kernel, rfl, rfl⟩
theorem e_LI_variables_1 : okE R_LI 0 b_LI_variables (1, (.getfield 15, 4, 0, 0, 5, 1, 0, [])) := ⟨by decide +kernel, rfl, ⟨_, _, _, rfl, by decide, wf_LI_15, rfl, rfl⟩⟩
theorem e_LI_variables_4 : okE R_LI 0 b_LI_variables (4, (.bipush 10, 6, 10, 0, 0, 0, 0, [])) := ⟨by decide +kernel, rfl, rfl⟩
theorem e_LI_variables_6 : okE R_LI 0 b_LI_variables (6, (.if_icmp .lt 12, 9, 0, 0, 18, 0, 0, [])) := ⟨by decide +kernel, rfl, rfl⟩
theorem e_LI_variables_9 : okE R_LI 0 b_LI_variables (9, (.iconst 1, 10, 1, 0, 0, 0, 0, [])) := ⟨by decide +kernel, rfl, rfl⟩
theorem e_LI_variables_10 : okE R_LI 0 b_LI_variables (10, (.aload_n 0, 11, 0, 0, 0, 0, 0, [])) := ⟨by decide +kernel, rfl, rfl⟩
theorem e_LI_variables_11 : okE R_LI 0 b_LI_variables (11, (.getfield 15, 14, 0, 0, 5, 1, 0, [])) := ⟨by decide +kernel, rfl, ⟨_, _, _, rfl, by decide, wf_LI_15, rfl, rfl⟩⟩
theorem e_LI_variables_14 : okE R_LI 0 b_LI_variables (14, (.ishl, 15, 0, 0, 0, 0, 0, [])) := ⟨by decide +kernel, rfl, trivial⟩
theorem e_LI_variables_15 : okE R_LI 0 b_LI_variables (15, (.goto 4, 18, 0, 0, 19, 0, 0, [])) := ⟨by decide +kernel, rfl, rfl⟩
theorem e_LI_variables_18 : okE R_LI 0 b_LI_variables (18, (.iconst 0, 19, 0, 0, 0, 0, 0, [])) := ⟨by decide +kernel, rfl, rfl⟩
theorem e_LI_variables_19 : okE R_LI 0 b_LI_variables (19, (.aload_n 0, 20, 0, 0, 0, 0, 0, [])) := ⟨by decide +kernel, rfl, rfl⟩
theorem e_LI_variables_20 : okE R_LI 0 b_LI_variables (20, (.getfield 18, 23, 0, 0, 5, 2, 0, [])) := ⟨by decide +kernel, rfl, ⟨_, _, _, rfl, by decide, wf_LI_18, rfl, rfl⟩⟩
theorem e_LI_variables_23 : okE R_LI 0 b_LI_variables (23, (.bipush 10, 25, 10, 0, 0, 0, 0, [])) := ⟨by decide +kernel, rfl, rfl⟩
theorem e_LI_variables_25 : okE R_LI 0 b_LI_variables (25, (.if_icmp .lt 12, 28, 0, 0, 37, 0, 0, [])) := ⟨by decide +kernel, rfl, rfl⟩
theorem e_LI_variables_28 : okE R_LI 0 b_LI_variables (28, (.iconst 1, 29, 1, 0, 0, 0, 0, [])) := ⟨by decide +kernel, rfl, rfl⟩
theorem e_LI_variables_29 : okE R_LI 0 b_LI_variables (29, (.aload_n 0, 30, 0, 0, 0, 0, 0, [])) := ⟨by decide +kernel, rfl, rfl⟩
theorem e_LI_variables_30 : okE R_LI 0 b_LI_variables (30, (.getfield 18, 33, 0, 0, 5, 2, 0, [])) := ⟨by decide +kernel, rfl, ⟨_, _, _, rfl, by decide, wf_LI_18, rfl, rfl⟩⟩
theorem e_LI_variables_33 : okE R_LI 0 b_LI_variables (33, (.ishl, 34, 0, 0, 0, 0, 0, [])) := ⟨by decide +kernel, rfl, trivial⟩
theorem e_LI_variables_34 : okE R_LI 0 b_LI_variables (34, (.goto 4, 37, 0, 0, 38, 0, 0, [])) := ⟨by decide +kernel, rfl, rfl⟩
theorem e_LI_variables_37 : okE R_LI 0 b_LI_variables (37, (.iconst 0, 38, 0, 0, 0, 0, 0, [])) := ⟨by decide +kernel, rfl, rfl⟩
theorem e_LI_variables_38 : okE R_LI 0 b_LI_variables (38, (.ior, 39, 0, 0, 0, 0, 0, [])) := ⟨by decide +kernel, rfl, trivial⟩
theorem e_LI_variables_39 : okE R_LI 0 b_LI_variables (39, (.ireturn, 40, 0, 0, 0, 0, 0, [])) := ⟨by decide +kernel, rfl, trivial⟩
def k_LI_variables : List (Nat × En) := [(0, (.aload_n 0, 1, 0, 0, 0, 0, 0, [])), (1, (.getfield 15, 4, 0, 0, 5, 1, 0, [])), (4, (.bipush 10, 6, 10, 0, 0, 0, 0, [])), (6, (.if_icmp .lt 12, 9, 0, 0, 18, 0, 0, [])), (9, (.iconst 1, 10, 1, 0, 0, 0, 0, [])), (10, (.aload_n 0, 11, 0, 0, 0, 0, 0, [])), (11, (.getfield 15, 14, 0, 0, 5, 1, 0, [])), (14, (.ishl, 15, 0, 0, 0, 0, 0, [])), (15, (.goto 4, 18, 0, 0, 19, 0, 0, [])), (18, (.iconst 0, 19, 0, 0, 0, 0, 0, [])), (19, (.aload_n 0, 20, 0, 0, 0, 0, 0, [])), (20, (.getfield 18, 23, 0, 0, 5, 2, 0, [])), (23, (.bipush 10, 25, 10, 0, 0, 0, 0, [])), (25, (.if_icmp .lt 12, 28, 0, 0, 37, 0, 0, [])), (28, (.iconst 1, 29, 1, 0, 0, 0, 0, [])), (29, (.aload_n 0, 30, 0, 0, 0, 0, 0, [])), (30, (.getfield 18, 33, 0, 0, 5, 2, 0, [])), (33, (.ishl, 34, 0, 0, 0, 0, 0, [])), (34, (.goto 4, 37, 0, 0, 38, 0, 0, [])), (37, (.iconst 0, 38, 0, 0, 0, 0, 0, [])), (38, (.ior, 39, 0, 0, 0, 0, 0, [])), (39, (.ireturn, 40, 0, 0, 0, 0, 0, []))]
set_option maxRecDepth 100000 in
theorem ok_LI_variables : ∀ x ∈ k_LI_variables, okE R_LI 0 b_LI_variables x := fc e_LI_variables_0 (fc e_LI_variables_1 (fc e_LI_variables_4 (fc e_LI_variables_6 (fc e_LI_variables_9 (fc e_LI_variables_10 (fc e_LI_variables_11 (fc e_LI_variables_14 (fc e_LI_variables_15 (fc e_LI_variables_18 (fc e_LI_variables_19 (fc e_LI_variables_20 (fc e_LI_variables_23 (fc e_LI_variables_25 (fc e_LI_variables_28 (fc e_LI_variables_29 (fc e_LI_variables_30 (fc e_LI_variables_33 (fc e_LI_variables_34 (fc e_LI_variables_37 (fc e_LI_variables_38 (fc e_LI_variables_39 (fun _ h => absurd h List.not_mem_nil))))))))))))))))))))))
theorem rt_LI_variables : ∀ x ∈ k_LI_variables, okR 0 x.2.1 = true := by decide +kernel
theorem e_RN_init_0 : okE R_RN 1 b_RN_init (0, (.aload_n 0, 1, 0, 0, 0, 0, 0, [])) := ⟨by decide +kernel, rfl, rfl⟩
theorem e_RN_init_1 : okE R_RN 1 b_RN_init (1, (.invokespecial 3, 4, 0, 0, 0, 0, 0, [])) := ⟨by decide +kernel, rfl, trivial⟩
theorem e_RN_init_4 : okE R_RN 1 b_RN_init (4, (.aload_n 0, 5, 0, 0, 0, 0, 0, [])) := ⟨by decide +kernel, rfl, rfl⟩
theorem e_RN_init_5 : okE R_RN 1 b_RN_init (5, (.bipush 6, 7, 6, 0, 0, 0, 0, [])) := ⟨by decide +kernel, rfl, rfl⟩
theorem e_RN_init_7 : okE R_RN 1 b_RN_init (7, (.newarray .int, 9, 0, 0, 0, 0, 0, [])) := ⟨by decide +kernel, rfl, Or.inl ⟨rfl, rfl, wa_int⟩⟩
theorem e_RN_init_9 : okE R_RN 1 b_RN_init (9, (.putfield 9, 12, 0, 0, 7, 0, 2, [])) := ⟨by decide +kernel, rfl, ⟨⟨_, _, _, rfl, by decide, wf_RN_9, rfl, rfl⟩, ⟨_, _, _, rfl, Or.inr ⟨rfl, rfl, rfl⟩, ⟨_, tk_RN.1 0 (by decide), fun a => ⟨rfl, rfl⟩⟩⟩⟩⟩
theorem e_RN_init_12 : okE R_RN 1 b_RN_init (12, (.aload_n 0, 13, 0, 0, 0, 0, 0, [])) := ⟨by decide +kernel, rfl, rfl⟩
theorem e_RN_init_13 : okE R_RN 1 b_RN_init (13, (.bipush 20, 15, 20, 0, 0, 0, 0, [])) := ⟨by decide +kernel, rfl, rfl⟩
theorem e_RN_init_15 : okE R_RN 1 b_RN_init (15, (.newarray .int, 17, 0, 0, 0, 0, 0, [])) := ⟨by decide +kernel, rfl, Or.inl ⟨rfl, rfl, wa_int⟩⟩
theorem e_RN_init_17 : okE R_RN 1 b_RN_init (17, (.putfield 15, 20, 0, 0, 7, 1, 2, [])) := ⟨by decide +kernel, rfl, ⟨⟨_, _, _, rfl, by decide, wf_RN_15, rfl, rfl⟩, ⟨_, _, _, rfl, Or.inr ⟨rfl, rfl, rfl⟩, ⟨_, tk_RN.1 1 (by decide), fun a => ⟨rfl, rfl⟩⟩⟩⟩⟩
theorem e_RN_init_20 : okE R_RN 1 b_RN_init (20, (.aload_n 0, 21, 0, 0, 0, 0, 0, [])) := ⟨by decide +kernel, rfl, rfl⟩
theorem e_RN_init_21 : okE R_RN 1 b_RN_init (21, (.bipush 40, 23, 40, 0, 0, 0, 0, [])) := ⟨by decide +kernel, rfl, rfl⟩
theorem e_RN_init_23 : okE R_RN 1 b_RN_init (23, (.newarray .int, 25, 0, 0, 0, 0, 0, [])) := ⟨by decide +kernel, rfl, Or.inl ⟨rfl, rfl, wa_int⟩⟩
theorem e_RN_init_25 : okE R_RN 1 b_RN_init (25, (.putfield 18, 28, 0, 0, 7, 2, 2, [])) := ⟨by decide +kernel, rfl, ⟨⟨_, _, _, rfl, by decide, wf_RN_18, rfl, rfl⟩, ⟨_, _, _, rfl, Or.inr ⟨rfl, rfl, rfl⟩, ⟨_, tk_RN.1 2 (by decide), fun a => ⟨rfl, rfl⟩⟩⟩⟩⟩
theorem e_RN_init_28 : okE R_RN 1 b_RN_init (28, (.aload_n 0, 29, 0, 0, 0, 0, 0, [])) := ⟨by decide +kernel, rfl, rfl⟩
theorem e_RN_init_29 : okE R_RN 1 b_RN_init (29, (.getfield 9, 32, 0, 0, 7, 0, 2, [])) := ⟨by decide +kernel, rfl, ⟨_, _, _, rfl, by decide, wf_RN_9, rfl, rfl⟩⟩
theorem e_RN_init_32 : okE R_RN 1 b_RN_init (32, (.iconst (-1), 33, (-1), 0, 0, 0, 0, [])) := ⟨by decide +kernel, rfl, rfl⟩
theorem e_RN_init_33 : okE R_RN 1 b_RN_init (33, (.invokestatic 21, 36, 0, 0, 1, 0, 0, [])) := ⟨by decide +kernel, rfl, trivial⟩
theorem e_RN_init_36 : okE R_RN 1 b_RN_init (36, (.return_, 37, 0, 0, 0, 0, 0, [])) := ⟨by decide +kernel, rfl, trivial⟩
def k_RN_init : List (Nat × En) := [(0, (.aload_n 0, 1, 0, 0, 0, 0, 0, [])), (1, (.invokespecial 3, 4, 0, 0, 0, 0, 0, [])), (4, (.aload_n 0, 5, 0, 0, 0, 0, 0, [])), (5, (.bipush 6, 7, 6, 0, 0, 0, 0, [])), (7, (.newarray .int, 9, 0, 0, 0, 0, 0, [])), (9, (.putfield 9, 12, 0, 0, 7, 0, 2, [])), (12, (.aload_n 0, 13, 0, 0, 0, 0, 0, [])), (13, (.bipush 20, 15, 20, 0, 0, 0, 0, [])), (15, (.newarray .int, 17, 0, 0, 0, 0, 0, [])), (17, (.putfield 15, 20, 0, 0, 7, 1, 2, [])), (20, (.aload_n 0, 21, 0, 0, 0, 0, 0, [])), (21, (.bipush 40, 23, 40, 0, 0, 0, 0, [])), (23, (.newarray .int, 25, 0, 0, 0, 0, 0, [])), (25, (.putfield 18, 28, 0, 0, 7, 2, 2, [])), (28, (.aload_n 0, 29, 0, 0, 0, 0, 0, [])), (29, (.getfield 9, 32, 0, 0, 7, 0, 2, [])), (32, (.iconst (-1), 33, (-1), 0, 0, 0, 0, [])), (33, (.invokestatic 21, 36, 0, 0, 1, 0, 0, [])), (36, (.return_, 37, 0, 0, 0, 0, 0, []))]
set_option maxRecDepth 100000 in
theorem ok_RN_init : ∀ x ∈ k_RN_init, okE R_RN 1 b_RN_init x := fc e_RN_init_0 (fc e_RN_init_1 (fc e_RN_init_4 (fc e_RN_init_5 (fc e_RN_init_7 (fc e_RN_init_9 (fc e_RN_init_12 (fc e_RN_init_13 (fc e_RN_init_15 (fc e_RN_init_17 (fc e_RN_init_20 (fc e_RN_init_21 (fc e_RN_init_23 (fc e_RN_init_25 (fc e_RN_init_28 (fc e_RN_init_29 (fc e_RN_init_32 (fc e_RN_init_33 (fc e_RN_init_36 (fun _ h => absurd h List.not_mem_nil)))))))))))))))))))
theorem rt_RN_init : ∀ x ∈ k_RN_init, okR 3 x.2.1 = true := by decide +kernel
theorem e_RN_restart_0 : okE R_RN 0 b_RN_restart (0, (.aload_n 0, 1, 0, 0, 0, 0, 0, [])) := ⟨by decide +kernel, rfl, rfl⟩
theorem e_RN_restart_1 : okE R_RN 0 b_RN_restart (1, (.iconst 0, 2, 0, 0, 0, 0, 0, [])) := ⟨by decide +kernel, rfl, rfl⟩
theorem e_RN_restart_2 : okE R_RN 0 b_RN_restart (2, (.putfield 27, 5, 0, 0, 7, 3, 0, [])) := ⟨by decide +kernel, rfl, ⟨⟨_, _, _, rfl, by decide, wf_RN_27, rfl, rfl⟩, ⟨_, _, _, rfl, Or.inl rfl, tk_RN.1 3 (by decide)⟩⟩⟩
theorem e_RN_restart_5 : okE R_RN 0 b_RN_restart (5, (.aload_n 0, 6, 0, 0, 0, 0, 0, [])) := ⟨by decide +kernel, rfl, rfl⟩
theorem e_RN_restart_6 : okE R_RN 0 b_RN_restart (6, (.getfield 9, 9, 0, 0, 7, 0, 2, [])) := ⟨by decide +kernel, rfl, ⟨_, _, _, rfl, by decide, wf_RN_9, rfl, rfl⟩⟩
theorem e_RN_restart_9 : okE R_RN 0 b_RN_restart (9, (.iconst (-1), 10, (-1), 0, 0, 0, 0, [])) := ⟨by decide +kernel, rfl, rfl⟩
theorem e_RN_restart_10 : okE R_RN 0 b_RN_restart (10, (.invokestatic 21, 13, 0, 0, 0, 0, 0, [])) := ⟨by decide +kernel, rfl, trivial⟩
theorem e_RN_restart_13 : okE R_RN 0 b_RN_restart (13, (.return_, 14, 0, 0, 0, 0, 0, [])) := ⟨by decide +kernel, rfl, trivial⟩
def k_RN_restart : List (Nat × En) := [(0, (.aload_n 0, 1, 0, 0, 0, 0, 0, [])), (1, (.iconst 0, 2, 0, 0, 0, 0, 0, [])), (2, (.putfield 27, 5, 0, 0, 7, 3, 0, [])), (5, (.aload_n 0, 6, 0, 0, 0, 0, 0, [])), (6, (.getfield 9, 9, 0, 0, 7, 0, 2, [])), (9, (.iconst (-1), 10, (-1), 0, 0, 0, 0, [])), (10, (.invokestatic 21, 13, 0, 0, 0, 0, 0, [])), (13, (.return_, 14, 0, 0, 0, 0, 0, []))]
set_option maxRecDepth 100000 in
theorem ok_RN_restart : ∀ x ∈ k_RN_restart, okE R_RN 0 b_RN_restart x := fc e_RN_restart_0 (fc e_RN_restart_1 (fc e_RN_restart_2 (fc e_RN_restart_5 (fc e_RN_restart_6 (fc e_RN_restart_9 (fc e_RN_restart_10 (fc e_RN_restart_13 (fun _ h => absurd h List.not_mem_nil))))))))
theorem rt_RN_restart : ∀ x ∈ k_RN_restart, okR 3 x.2.1 = true := by decide +kernel
theorem e_RN_carryOut_0 : okE R_RN 0 b_RN_carryOut (0, (.iload_n 1, 1, 0, 0, 1, 0, 0, [])) := ⟨by decide +kernel, rfl, rfl⟩
theorem e_RN_carryOut_1 : okE R_RN 0 b_RN_carryOut (1, (.tableswitch 92 0 5 #[39, 46, 60, 68, 76, 84], 40, 0, 0, 93, 39, 0, [40, 47, 61, 69, 77, 85])) := ⟨by decide +kernel, rfl, ⟨rfl, rfl, by decide, rfl, fun j t h => by
  match j, h with
  | 0, h => cases h; exact ⟨39, rfl, rfl⟩
  | 1, h => cases h; exact ⟨46, rfl, rfl⟩
  | 2, h => cases h; exact ⟨60, rfl, rfl⟩
  | 3, h => cases h; exact ⟨68, rfl, rfl⟩
  | 4, h => cases h; exact ⟨76, rfl, rfl⟩
  | 5, h => cases h; exact ⟨84, rfl, rfl⟩
  | j + 6, h => simp at h⟩⟩
theorem e_RN_carryOut_40 : okE R_RN 0 b_RN_carryOut (40, (.aload_n 0, 41, 0, 0, 0, 0, 0, [])) := ⟨by decide +kernel, rfl, rfl⟩
theorem e_RN_carryOut_41 : okE R_RN 0 b_RN_carryOut (41, (.iload_n 2, 42, 0, 0, 2, 0, 0, [])) := ⟨by decide +kernel, rfl, rfl⟩
theorem e_RN_carryOut_42 : okE R_RN 0 b_RN_carryOut (42, (.iload_n 3, 43, 0, 0, 3, 0, 0, [])) := ⟨by decide +kernel, rfl, rfl⟩
theorem e_RN_carryOut_43 : okE R_RN 0 b_RN_carryOut (43, (.invokevirtual 31, 46, 0, 0, 0, 0, 0, [])) := ⟨by decide +kernel, rfl, trivial⟩
theorem e_RN_carryOut_46 : okE R_RN 0 b_RN_carryOut (46, (.ireturn, 47, 0, 0, 0, 0, 0, [])) := ⟨by decide +kernel, rfl, trivial⟩
theorem e_RN_carryOut_47 : okE R_RN 0 b_RN_carryOut (47, (.aload_n 0, 48, 0, 0, 0, 0, 0, [])) := ⟨by decide +kernel, rfl, rfl⟩
theorem e_RN_carryOut_48 : okE R_RN 0 b_RN_carryOut (48, (.getfield 9, 51, 0, 0, 7, 0, 2, [])) := ⟨by decide +kernel, rfl, ⟨_, _, _, rfl, by decide, wf_RN_9, rfl, rfl⟩⟩
theorem e_RN_carryOut_51 : okE R_RN 0 b_RN_carryOut (51, (.iload_n 2, 52, 0, 0, 2, 0, 0, [])) := ⟨by decide +kernel, rfl, rfl⟩
theorem e_RN_carryOut_52 : okE R_RN 0 b_RN_carryOut (52, (.aload_n 0, 53, 0, 0, 0, 0, 0, [])) := ⟨by decide +kernel, rfl, rfl⟩
theorem e_RN_carryOut_53 : okE R_RN 0 b_RN_carryOut (53, (.getfield 9, 56, 0, 0, 7, 0, 2, [])) := ⟨by decide +kernel, rfl, ⟨_, _, _, rfl, by decide, wf_RN_9, rfl, rfl⟩⟩
theorem e_RN_carryOut_56 : okE R_RN 0 b_RN_carryOut (56, (.iload_n 3, 57, 0, 0, 3, 0, 0, [])) := ⟨by decide +kernel, rfl, rfl⟩
theorem e_RN_carryOut_57 : okE R_RN 0 b_RN_carryOut (57, (.iaload, 58, 0, 0, 0, 0, 0, [])) := ⟨by decide +kernel, rfl, trivial⟩
theorem e_RN_carryOut_58 : okE R_RN 0 b_RN_carryOut (58, (.iastore, 59, 0, 0, 0, 0, 0, [])) := ⟨by decide +kernel, rfl, trivial⟩
theorem e_RN_carryOut_59 : okE R_RN 0 b_RN_carryOut (59, (.iconst 1, 60, 1, 0, 0, 0, 0, [])) := ⟨by decide +kernel, rfl, rfl⟩
theorem e_RN_carryOut_60 : okE R_RN 0 b_RN_carryOut (60, (.ireturn, 61, 0, 0, 0, 0, 0, [])) := ⟨by decide +kernel, rfl, trivial⟩
theorem e_RN_carryOut_61 : okE R_RN 0 b_RN_carryOut (61, (.aload_n 0, 62, 0, 0, 0, 0, 0, [])) := ⟨by decide +kernel, rfl, rfl⟩
theorem e_RN_carryOut_62 : okE R_RN 0 b_RN_carryOut (62, (.iload_n 2, 63, 0, 0, 2, 0, 0, [])) := ⟨by decide +kernel, rfl, rfl⟩
theorem e_RN_carryOut_63 : okE R_RN 0 b_RN_carryOut (63, (.iload_n 3, 64, 0, 0, 3, 0, 0, [])) := ⟨by decide +kernel, rfl, rfl⟩
theorem e_RN_carryOut_64 : okE R_RN 0 b_RN_carryOut (64, (.iconst 0, 65, 0, 0, 0, 0, 0, [])) := ⟨by decide +kernel, rfl, rfl⟩
theorem e_RN_carryOut_65 : okE R_RN 0 b_RN_carryOut (65, (.invokevirtual 35, 68, 0, 0, 1, 0, 0, [])) := ⟨by decide +kernel, rfl, trivial⟩
theorem e_RN_carryOut_68 : okE R_RN 0 b_RN_carryOut (68, (.ireturn, 69, 0, 0, 0, 0, 0, [])) := ⟨by decide +kernel, rfl, trivial⟩
theorem e_RN_carryOut_69 : okE R_RN 0 b_RN_carryOut (69, (.aload_n 0, 70, 0, 0, 0, 0, 0, [])) := ⟨by decide +kernel, rfl, rfl⟩
theorem e_RN_carryOut_70 : okE R_RN 0 b_RN_carryOut (70, (.iload_n 2, 71, 0, 0, 2, 0, 0, [])) := ⟨by decide +kernel, rfl, rfl⟩
theorem e_RN_carryOut_71 : okE R_RN 0 b_RN_carryOut (71, (.iload_n 3, 72, 0, 0, 3, 0, 0, [])) := ⟨by decide +kernel, rfl, rfl⟩
theorem e_RN_carryOut_72 : okE R_RN 0 b_RN_carryOut (72, (.iconst 0, 73, 0, 0, 0, 0, 0, [])) := ⟨by decide +kernel, rfl, rfl⟩
theorem e_RN_carryOut_73 : okE R_RN 0 b_RN_carryOut (73, (.invokevirtual 39, 76, 0, 0, 2, 0, 0, [])) := ⟨by decide +kernel, rfl, trivial⟩
theorem e_RN_carryOut_76 : okE R_RN 0 b_RN_carryOut (76, (.ireturn, 77, 0, 0, 0, 0, 0, [])) := ⟨by decide +kernel, rfl, trivial⟩
theorem e_RN_carryOut_77 : okE R_RN 0 b_RN_carryOut (77, (.aload_n 0, 78, 0, 0, 0, 0, 0, [])) := ⟨by decide +kernel, rfl, rfl⟩
theorem e_RN_carryOut_78 : okE R_RN 0 b_RN_carryOut (78, (.iload_n 2, 79, 0, 0, 2, 0, 0, [])) := ⟨by decide +kernel, rfl, rfl⟩
theorem e_RN_carryOut_79 : okE R_RN 0 b_RN_carryOut (79, (.iload_n 3, 80, 0, 0, 3, 0, 0, [])) := ⟨by decide +kernel, rfl, rfl⟩
theorem e_RN_carryOut_80 : okE R_RN 0 b_RN_carryOut (80, (.iconst 1, 81, 1, 0, 0, 0, 0, [])) := ⟨by decide +kernel, rfl, rfl⟩
theorem e_RN_carryOut_81 : okE R_RN 0 b_RN_carryOut (81, (.invokevirtual 35, 84, 0, 0, 1, 0, 0, [])) := ⟨by decide +kernel, rfl, trivial⟩
theorem e_RN_carryOut_84 : okE R_RN 0 b_RN_carryOut (84, (.ireturn, 85, 0, 0, 0, 0, 0, [])) := ⟨by decide +kernel, rfl, trivial⟩
theorem e_RN_carryOut_85 : okE R_RN 0 b_RN_carryOut (85, (.aload_n 0, 86, 0, 0, 0, 0, 0, [])) := ⟨by decide +kernel, rfl, rfl⟩
theorem e_RN_carryOut_86 : okE R_RN 0 b_RN_carryOut (86, (.iload_n 2, 87, 0, 0, 2, 0, 0, [])) := ⟨by decide +kernel, rfl, rfl⟩
theorem e_RN_carryOut_87 : okE R_RN 0 b_RN_carryOut (87, (.iload_n 3, 88, 0, 0, 3, 0, 0, [])) := ⟨by decide +kernel, rfl, rfl⟩
theorem e_RN_carryOut_88 : okE R_RN 0 b_RN_carryOut (88, (.iconst 1, 89, 1, 0, 0, 0, 0, [])) := ⟨by decide +kernel, rfl, rfl⟩
theorem e_RN_carryOut_89 : okE R_RN 0 b_RN_carryOut (89, (.invokevirtual 39, 92, 0, 0, 2, 0, 0, [])) := ⟨by decide +kernel, rfl, trivial⟩
theorem e_RN_carryOut_92 : okE R_RN 0 b_RN_carryOut (92, (.ireturn, 93, 0, 0, 0, 0, 0, [])) := ⟨by decide +kernel, rfl, trivial⟩
theorem e_RN_carryOut_93 : okE R_RN 0 b_RN_carryOut (93, (.iconst 0, 94, 0, 0, 0, 0, 0, [])) := ⟨by decide +kernel, rfl, rfl⟩
theorem e_RN_carryOut_94 : okE R_RN 0 b_RN_carryOut (94, (.ireturn, 95, 0, 0, 0, 0, 0, [])) := ⟨by decide +kernel, rfl, trivial⟩
def k_RN_carryOut : List (Nat × En) := [(0, (.iload_n 1, 1, 0, 0, 1, 0, 0, [])), (1, (.tableswitch 92 0 5 #[39, 46, 60, 68, 76, 84], 40, 0, 0, 93, 39, 0, [40, 47, 61, 69, 77, 85])), (40, (.aload_n 0, 41, 0, 0, 0, 0, 0, [])), (41, (.iload_n 2, 42, 0, 0, 2, 0, 0, [])), (42, (.iload_n 3, 43, 0, 0, 3, 0, 0, [])), (43, (.invokevirtual 31, 46, 0, 0, 0, 0, 0, [])), (46, (.ireturn, 47, 0, 0, 0, 0, 0, [])), (47, (.aload_n 0, 48, 0, 0, 0, 0, 0, [])), (48, (.getfield 9, 51, 0, 0, 7, 0, 2, [])), (51, (.iload_n 2, 52, 0, 0, 2, 0, 0, [])), (52, (.aload_n 0, 53, 0, 0, 0, 0, 0, [])), (53, (.getfield 9, 56, 0, 0, 7, 0, 2, [])), (56, (.iload_n 3, 57, 0, 0, 3, 0, 0, [])), (57, (.iaload, 58, 0, 0, 0, 0, 0, [])), (58, (.iastore, 59, 0, 0, 0, 0, 0, [])), (59, (.iconst 1, 60, 1, 0, 0, 0, 0, [])), (60, (.ireturn, 61, 0, 0, 0, 0, 0, [])), (61, (.aload_n 0, 62, 0, 0, 0, 0, 0, [])), (62, (.iload_n 2, 63, 0, 0, 2, 0, 0, [])), (63, (.iload_n 3, 64, 0, 0, 3, 0, 0, [])), (64, (.iconst 0, 65, 0, 0, 0, 0, 0, [])), (65, (.invokevirtual 35, 68, 0, 0, 1, 0, 0, [])), (68, (.ireturn, 69, 0, 0, 0, 0, 0, [])), (69, (.aload_n 0, 70, 0, 0, 0, 0, 0, [])), (70, (.iload_n 2, 71, 0, 0, 2, 0, 0, [])), (71, (.iload_n 3, 72, 0, 0, 3, 0, 0, [])), (72, (.iconst 0, 73, 0, 0, 0, 0, 0, [])), (73, (.invokevirtual 39, 76, 0, 0, 2, 0, 0, [])), (76, (.ireturn, 77, 0, 0, 0, 0, 0, [])), (77, (.aload_n 0, 78, 0, 0, 0, 0, 0, [])), (78, (.iload_n 2, 79, 0, 0, 2, 0, 0, [])), (79, (.iload_n 3, 80, 0, 0, 3, 0, 0, [])), (80, (.iconst 1, 81, 1, 0, 0, 0, 0, [])), (81, (.invokevirtual 35, 84, 0, 0, 1, 0, 0, [])), (84, (.ireturn, 85, 0, 0, 0, 0, 0, [])), (85, (.aload_n 0, 86, 0, 0, 0, 0, 0, [])), (86, (.iload_n 2, 87, 0, 0, 2, 0, 0, [])), (87, (.iload_n 3, 88, 0, 0, 3, 0, 0, [])), (88, (.iconst 1, 89, 1, 0, 0, 0, 0, [])), (89, (.invokevirtual 39, 92, 0, 0, 2, 0, 0, [])), (92, (.ireturn, 93, 0, 0, 0, 0, 0, [])), (93, (.iconst 0, 94, 0, 0, 0, 0, 0, [])), (94, (.ireturn, 95, 0, 0, 0, 0, 0, []))]
set_option maxRecDepth 100000 in
theorem ok_RN_carryOut : ∀ x ∈ k_RN_carryOut, okE R_RN 0 b_RN_carryOut x := fc e_RN_carryOut_0 (fc e_RN_carryOut_1 (fc e_RN_carryOut_40 (fc e_RN_carryOut_41 (fc e_RN_carryOut_42 (fc e_RN_carryOut_43 (fc e_RN_carryOut_46 (fc e_RN_carryOut_47 (fc e_RN_carryOut_48 (fc e_RN_carryOut_51 (fc e_RN_carryOut_52 (fc e_RN_carryOut_53 (fc e_RN_carryOut_56 (fc e_RN_carryOut_57 (fc e_RN_carryOut_58 (fc e_RN_carryOut_59 (fc e_RN_carryOut_60 (fc e_RN_carryOut_61 (fc e_RN_carryOut_62 (fc e_RN_carryOut_63 (fc e_RN_carryOut_64 (fc e_RN_carryOut_65 (fc e_RN_carryOut_68 (fc e_RN_carryOut_69 (fc e_RN_carryOut_70 (fc e_RN_carryOut_71 (fc e_RN_carryOut_72 (fc e_RN_carryOut_73 (fc e_RN_carryOut_76 (fc e_RN_carryOut_77 (fc e_RN_carryOut_78 (fc e_RN_carryOut_79 (fc e_RN_carryOut_80 (fc e_RN_carryOut_81 (fc e_RN_carryOut_84 (fc e_RN_carryOut_85 (fc e_RN_carryOut_86 (fc e_RN_carryOut_87 (fc e_RN_carryOut_88 (fc e_RN_carryOut_89 (fc e_RN_carryOut_92 (fc e_RN_carryOut_93 (fc e_RN_carryOut_94 (fun _ h => absurd h List.not_mem_nil)))))))))))))))))))))))))))))))))))))))))))
theorem rt_RN_carryOut : ∀ x ∈ k_RN_carryOut, okR 1 x.2.1 = true := by decide +kernel
theorem e_RN_makeObject_0 : okE R_RN 0 b_RN_makeObject (0, (.aload_n 0, 1, 0, 0, 0, 0, 0, [])) := ⟨by decide +kernel, rfl, rfl⟩
theorem e_RN_makeObject_1 : okE R_RN 0 b_RN_makeObject (1, (.getfield 27, 4, 0, 0, 7, 3, 0, [])) := ⟨by decide +kernel, rfl, ⟨_, _, _, rfl, by decide, wf_RN_27, rfl, rfl⟩⟩
theorem e_RN_makeObject_4 : okE R_RN 0 b_RN_makeObject (4, (.bipush 20, 6, 20, 0, 0, 0, 0, [])) := ⟨by decide +kernel, rfl, rfl⟩
theorem e_RN_makeObject_6 : okE R_RN 0 b_RN_makeObject (6, (.if_icmp .lt 5, 9, 0, 0, 11, 0, 0, [])) := ⟨by decide +kernel, rfl, rfl⟩
theorem e_RN_makeObject_9 : okE R_RN 0 b_RN_makeObject (9, (.iconst 0, 10, 0, 0, 0, 0, 0, [])) := ⟨by decide +kernel, rfl, rfl⟩
theorem e_RN_makeObject_10 : okE R_RN 0 b_RN_makeObject (10, (.ireturn, 11, 0, 0, 0, 0, 0, [])) := ⟨by decide +kernel, rfl, trivial⟩
theorem e_RN_makeObject_11 : okE R_RN 0 b_RN_makeObject (11, (.aload_n 0, 12, 0, 0, 0, 0, 0, [])) := ⟨by decide +kernel, rfl, rfl⟩
theorem e_RN_makeObject_12 : okE R_RN 0 b_RN_makeObject (12, (.getfield 15, 15, 0, 0, 7, 1, 2, [])) := ⟨by decide +kernel, rfl, ⟨_, _, _, rfl, by decide, wf_RN_15, rfl, rfl⟩⟩
theorem e_RN_makeObject_15 : okE R_RN 0 b_RN_makeObject (15, (.aload_n 0, 16, 0, 0, 0, 0, 0, [])) := ⟨by decide +kernel, rfl, rfl⟩
theorem e_RN_makeObject_16 : okE R_RN 0 b_RN_makeObject (16, (.getfield 27, 19, 0, 0, 7, 3, 0, [])) := ⟨by decide +kernel, rfl, ⟨_, _, _, rfl, by decide, wf_RN_27, rfl, rfl⟩⟩
theorem e_RN_makeObject_19 : okE R_RN 0 b_RN_makeObject (19, (.iload_n 2, 20, 0, 0, 2, 0, 0, [])) := ⟨by decide +kernel, rfl, rfl⟩
theorem e_RN_makeObject_20 : okE R_RN 0 b_RN_makeObject (20, (.iastore, 21, 0, 0, 0, 0, 0, [])) := ⟨by decide +kernel, rfl, trivial⟩
theorem e_RN_makeObject_21 : okE R_RN 0 b_RN_makeObject (21, (.iconst 0, 22, 0, 0, 0, 0, 0, [])) := ⟨by decide +kernel, rfl, rfl⟩
theorem e_RN_makeObject_22 : okE R_RN 0 b_RN_makeObject (22, (.istore_n 3, 23, 0, 0, 3, 0, 0, [])) := ⟨by decide +kernel, rfl, rfl⟩
theorem e_RN_makeObject_23 : okE R_RN 0 b_RN_makeObject (23, (.iload_n 3, 24, 0, 0, 3, 0, 0, [])) := ⟨by decide +kernel, rfl, rfl⟩
theorem e_RN_makeObject_24 : okE R_RN 0 b_RN_makeObject (24, (.iconst 2, 25, 2, 0, 0, 0, 0, [])) := ⟨by decide +kernel, rfl, rfl⟩
theorem e_RN_makeObject_25 : okE R_RN 0 b_RN_makeObject (25, (.if_icmp .ge 23, 28, 0, 0, 48, 0, 0, [])) := ⟨by decide +kernel, rfl, rfl⟩
theorem e_RN_makeObject_28 : okE R_RN 0 b_RN_makeObject (28, (.aload_n 0, 29, 0, 0, 0, 0, 0, [])) := ⟨by decide +kernel, rfl, rfl⟩
theorem e_RN_makeObject_29 : okE R_RN 0 b_RN_makeObject (29, (.getfield 18, 32, 0, 0, 7, 2, 2, [])) := ⟨by decide +kernel, rfl, ⟨_, _, _, rfl, by decide, wf_RN_18, rfl, rfl⟩⟩
theorem e_RN_makeObject_32 : okE R_RN 0 b_RN_makeObject (32, (.aload_n 0, 33, 0, 0, 0, 0, 0, [])) := ⟨by decide +kernel, rfl, rfl⟩
theorem e_RN_makeObject_33 : okE R_RN 0 b_RN_makeObject (33, (.getfield 27, 36, 0, 0, 7, 3, 0, [])) := ⟨by decide +kernel, rfl, ⟨_, _, _, rfl, by decide, wf_RN_27, rfl, rfl⟩⟩
theorem e_RN_makeObject_36 : okE R_RN 0 b_RN_makeObject (36, (.iconst 2, 37, 2, 0, 0, 0, 0, [])) := ⟨by decide +kernel, rfl, rfl⟩
theorem e_RN_makeObject_37 : okE R_RN 0 b_RN_makeObject (37, (.imul, 38, 0, 0, 0, 0, 0, [])) := ⟨by decide +kernel, rfl, trivial⟩
theorem e_RN_makeObject_38 : okE R_RN 0 b_RN_makeObject (38, (.iload_n 3, 39, 0, 0, 3, 0, 0, [])) := ⟨by decide +kernel, rfl, rfl⟩
theorem e_RN_makeObject_39 : okE R_RN 0 b_RN_makeObject (39, (.iadd, 40, 0, 0, 0, 0, 0, [])) := ⟨by decide +kernel, rfl, trivial⟩
theorem e_RN_makeObject_40 : okE R_RN 0 b_RN_makeObject (40, (.iconst (-1), 41, (-1), 0, 0, 0, 0, [])) := ⟨by decide +kernel, rfl, rfl⟩
theorem e_RN_makeObject_41 : okE R_RN 0 b_RN_makeObject (41, (.iastore, 42, 0, 0, 0, 0, 0, [])) := ⟨by decide +kernel, rfl, trivial⟩
theorem e_RN_makeObject_42 : okE R_RN 0 b_RN_makeObject (42, (.iinc 3 1, 45, 1, 0, 3, 0, 0, [])) := ⟨by decide +kernel, rfl, ⟨rfl, rfl⟩⟩
theorem e_RN_makeObject_45 : okE R_RN 0 b_RN_makeObject (45, (.goto (-22), 48, 0, 0, 23, 0, 0, [])) := ⟨by decide +kernel, rfl, rfl⟩
theorem e_RN_makeObject_48 : okE R_RN 0 b_RN_makeObject (48, (.aload_n 0, 49, 0, 0, 0, 0, 0, [])) := ⟨by decide +kernel, rfl, rfl⟩
theorem e_RN_makeObject_49 : okE R_RN 0 b_RN_makeObject (49, (.getfield 9, 52, 0, 0, 7, 0, 2, [])) := ⟨by decide +kernel, rfl, ⟨_, _, _, rfl, by decide, wf_RN_9, rfl, rfl⟩⟩
theorem e_RN_makeObject_52 : okE R_RN 0 b_RN_makeObject (52, (.iload_n 1, 53, 0, 0, 1, 0, 0, [])) := ⟨by decide +kernel, rfl, rfl⟩
theorem e_RN_makeObject_53 : okE R_RN 0 b_RN_makeObject (53, (.aload_n 0, 54, 0, 0, 0, 0, 0, [])) := ⟨by decide +kernel, rfl, rfl⟩
theorem e_RN_makeObject_54 : okE R_RN 0 b_RN_makeObject (54, (.getfield 27, 57, 0, 0, 7, 3, 0, [])) := ⟨by decide +kernel, rfl, ⟨_, _, _, rfl, by decide, wf_RN_27, rfl, rfl⟩⟩
theorem e_RN_makeObject_57 : okE R_RN 0 b_RN_makeObject (57, (.iastore, 58, 0, 0, 0, 0, 0, [])) := ⟨by decide +kernel, rfl, trivial⟩
theorem e_RN_makeObject_58 : okE R_RN 0 b_RN_makeObject (58, (.aload_n 0, 59, 0, 0, 0, 0, 0, [])) := ⟨by decide +kernel, rfl, rfl⟩
theorem e_RN_makeObject_59 : okE R_RN 0 b_RN_makeObject (59, (.dup, 60, 0, 0, 0, 0, 0, [])) := ⟨by decide +kernel, rfl, trivial⟩
theorem e_RN_makeObject_60 : okE R_RN 0 b_RN_makeObject (60, (.getfield 27, 63, 0, 0, 7, 3, 0, [])) := ⟨by decide +kernel, rfl, ⟨_, _, _, rfl, by decide, wf_RN_27, rfl, rfl⟩⟩
theorem e_RN_makeObject_63 : okE R_RN 0 b_RN_makeObject (63, (.iconst 1, 64, 1, 0, 0, 0, 0, [])) := ⟨by decide +kernel, rfl, rfl⟩
theorem e_RN_makeObject_64 : okE R_RN 0 b_RN_makeObject (64, (.iadd, 65, 0, 0, 0, 0, 0, [])) := ⟨by decide +kernel, rfl, trivial⟩
theorem e_RN_makeObject_65 : okE R_RN 0 b_RN_makeObject (65, (.putfield 27, 68, 0, 0, 7, 3, 0, [])) := ⟨by decide +kernel, rfl, ⟨⟨_, _, _, rfl, by decide, wf_RN_27, rfl, rfl⟩, ⟨_, _, _, rfl, Or.inl rfl, tk_RN.1 3 (by decide)⟩⟩⟩
theorem e_RN_makeObject_68 : okE R_RN 0 b_RN_makeObject (68, (.iconst 1, 69, 1, 0, 0, 0, 0, [])) := ⟨by decide +kernel, rfl, rfl⟩
theorem e_RN_makeObject_69 : okE R_RN 0 b_RN_makeObject (69, (.ireturn, 70, 0, 0, 0, 0, 0, [])) := ⟨by decide +kernel, rfl, trivial⟩
def k_RN_makeObject : List (Nat × En) := [(0, (.aload_n 0, 1, 0, 0, 0, 0, 0, [])), (1, (.getfield 27, 4, 0, 0, 7, 3, 0, [])), (4, (.bipush 20, 6, 20, 0, 0, 0, 0, [])), (6, (.if_icmp .lt 5, 9, 0, 0, 11, 0, 0, [])), (9, (.iconst 0, 10, 0, 0, 0, 0, 0, [])), (10, (.ireturn, 11, 0, 0, 0, 0, 0, [])), (11, (.aload_n 0, 12, 0, 0, 0, 0, 0, [])), (12, (.getfield 15, 15, 0, 0, 7, 1, 2, [])), (15, (.aload_n 0, 16, 0, 0, 0, 0, 0, [])), (16, (.getfield 27, 19, 0, 0, 7, 3, 0, [])), (19, (.iload_n 2, 20, 0, 0, 2, 0, 0, [])), (20, (.iastore, 21, 0, 0, 0, 0, 0, [])), (21, (.iconst 0, 22, 0, 0, 0, 0, 0, [])), (22, (.istore_n 3, 23, 0, 0, 3, 0, 0, [])), (23, (.iload_n 3, 24, 0, 0, 3, 0, 0, [])), (24, (.iconst 2, 25, 2, 0, 0, 0, 0, [])), (25, (.if_icmp .ge 23, 28, 0, 0, 48, 0, 0, [])), (28, (.aload_n 0, 29, 0, 0, 0, 0, 0, [])), (29, (.getfield 18, 32, 0, 0, 7, 2, 2, [])), (32, (.aload_n 0, 33, 0, 0, 0, 0, 0, [])), (33, (.getfield 27, 36, 0, 0, 7, 3, 0, [])), (36, (.iconst 2, 37, 2, 0, 0, 0, 0, [])), (37, (.imul, 38, 0, 0, 0, 0, 0, [])), (38, (.iload_n 3, 39, 0, 0, 3, 0, 0, [])), (39, (.iadd, 40, 0, 0, 0, 0, 0, [])), (40, (.iconst (-1), 41, (-1), 0, 0, 0, 0, [])), (41, (.iastore, 42, 0, 0, 0, 0, 0, [])), (42, (.iinc 3 1, 45, 1, 0, 3, 0, 0, [])), (45, (.goto (-22), 48, 0, 0, 23, 0, 0, [])), (48, (.aload_n 0, 49, 0, 0, 0, 0, 0, [])), (49, (.getfield 9, 52, 0, 0, 7, 0, 2, [])), (52, (.iload_n 1, 53, 0, 0, 1, 0, 0, [])), (53, (.aload_n 0, 54, 0, 0, 0, 0, 0, [])), (54, (.getfield 27, 57, 0, 0, 7, 3, 0, [])), (57, (.iastore, 58, 0, 0, 0, 0, 0, [])), (58, (.aload_n 0, 59, 0, 0, 0, 0, 0, [])), (59, (.dup, 60, 0, 0, 0, 0, 0, [])), (60, (.getfield 27, 63, 0, 0, 7, 3, 0, [])), (63, (.iconst 1, 64, 1, 0, 0, 0, 0, [])), (64, (.iadd, 65, 0, 0, 0, 0, 0, [])), (65, (.putfield 27, 68, 0, 0, 7, 3, 0, [])), (68, (.iconst 1, 69, 1, 0, 0, 0, 0, [])), (69, (.ireturn, 70, 0, 0, 0, 0, 0, []))]
set_option maxRecDepth 100000 in
theorem ok_RN_makeObject : ∀ x ∈ k_RN_makeObject, okE R_RN 0 b_RN_makeObject x := fc e_RN_makeObject_0 (fc e_RN_makeObject_1 (fc e_RN_makeObject_4 (fc e_RN_makeObject_6 (fc e_RN_makeObject_9 (fc e_RN_makeObject_10 (fc e_RN_makeObject_11 (fc e_RN_makeObject_12 (fc e_RN_makeObject_15 (fc e_RN_makeObject_16 (fc e_RN_makeObject_19 (fc e_RN_makeObject_20 (fc e_RN_makeObject_21 (fc e_RN_makeObject_22 (fc e_RN_makeObject_23 (fc e_RN_makeObject_24 (fc e_RN_makeObject_25 (fc e_RN_makeObject_28 (fc e_RN_makeObject_29 (fc e_RN_makeObject_32 (fc e_RN_makeObject_33 (fc e_RN_makeObject_36 (fc e_RN_makeObject_37 (fc e_RN_makeObject_38 (fc e_RN_makeObject_39 (fc e_RN_makeObject_40 (fc e_RN_makeObject_41 (fc e_RN_makeObject_42 (fc e_RN_makeObject_45 (fc e_RN_makeObject_48 (fc e_RN_makeObject_49 (fc e_RN_makeObject_52 (fc e_RN_makeObject_53 (fc e_RN_makeObject_54 (fc e_RN_makeObject_57 (fc e_RN_makeObject_58 (fc e_RN_makeObject_59 (fc e_RN_makeObject_60 (fc e_RN_makeObject_63 (fc e_RN_makeObject_64 (fc e_RN_makeObject_65 (fc e_RN_makeObject_68 (fc e_RN_makeObject_69 (fun _ h => absurd h List.not_mem_nil)))))))))))))))))))))))))))))))))))))))))))
theorem rt_RN_makeObject : ∀ x ∈ k_RN_makeObject, okR 1 x.2.1 = true := by decide +kernel
theorem e_RN_load_0 : okE R_RN 0 b_RN_load (0, (.aload_n 0, 1, 0, 0, 0, 0, 0, [])) := ⟨by decide +kernel, rfl, rfl⟩
theorem e_RN_load_1 : okE R_RN 0 b_RN_load (1, (.getfield 9, 4, 0, 0, 7, 0, 2, [])) := ⟨by decide +kernel, rfl, ⟨_, _, _, rfl, by decide, wf_RN_9, rfl, rfl⟩⟩
theorem e_RN_load_4 : okE R_RN 0 b_RN_load (4, (.iload_n 2, 5, 0, 0, 2, 0, 0, [])) := ⟨by decide +kernel, rfl, rfl⟩
theorem e_RN_load_5 : okE R_RN 0 b_RN_load (5, (.iaload, 6, 0, 0, 0, 0, 0, [])) := ⟨by decide +kernel, rfl, trivial⟩
theorem e_RN_load_6 : okE R_RN 0 b_RN_load (6, (.iconst (-1), 7, (-1), 0, 0, 0, 0, [])) := ⟨by decide +kernel, rfl, rfl⟩
theorem e_RN_load_7 : okE R_RN 0 b_RN_load (7, (.if_icmp .ne 5, 10, 0, 0, 12, 0, 0, [])) := ⟨by decide +kernel, rfl, rfl⟩
theorem e_RN_load_10 : okE R_RN 0 b_RN_load (10, (.iconst 0, 11, 0, 0, 0, 0, 0, [])) := ⟨by decide +kernel, rfl, rfl⟩
theorem e_RN_load_11 : okE R_RN 0 b_RN_load (11, (.ireturn, 12, 0, 0, 0, 0, 0, [])) := ⟨by decide +kernel, rfl, trivial⟩
theorem e_RN_load_12 : okE R_RN 0 b_RN_load (12, (.aload_n 0, 13, 0, 0, 0, 0, 0, [])) := ⟨by decide +kernel, rfl, rfl⟩
theorem e_RN_load_13 : okE R_RN 0 b_RN_load (13, (.getfield 9, 16, 0, 0, 7, 0, 2, [])) := ⟨by decide +kernel, rfl, ⟨_, _, _, rfl, by decide, wf_RN_9, rfl, rfl⟩⟩
theorem e_RN_load_16 : okE R_RN 0 b_RN_load (16, (.iload_n 1, 17, 0, 0, 1, 0, 0, [])) := ⟨by decide +kernel, rfl, rfl⟩
theorem e_RN_load_17 : okE R_RN 0 b_RN_load (17, (.aload_n 0, 18, 0, 0, 0, 0, 0, [])) := ⟨by decide +kernel, rfl, rfl⟩
theorem e_RN_load_18 : okE R_RN 0 b_RN_load (18, (.getfield 18, 21, 0, 0, 7, 2, 2, [])) := ⟨by decide +kernel, rfl, ⟨_, _, _, rfl, by decide, wf_RN_18, rfl, rfl⟩⟩
theorem e_RN_load_21 : okE R_RN 0 b_RN_load (21, (.aload_n 0, 22, 0, 0, 0, 0, 0, [])) := ⟨by decide +kernel, rfl, rfl⟩
theorem e_RN_load_22 : okE R_RN 0 b_RN_load (22, (.getfield 9, 25, 0, 0, 7, 0, 2, [])) := ⟨by decide +kernel, rfl, ⟨_, _, _, rfl, by decide, wf_RN_9, rfl, rfl⟩⟩
theorem e_RN_load_25 : okE R_RN 0 b_RN_load (25, (.iload_n 2, 26, 0, 0, 2, 0, 0, [])) := ⟨by decide +kernel, rfl, rfl⟩
theorem e_RN_load_26 : okE R_RN 0 b_RN_load (26, (.iaload, 27, 0, 0, 0, 0, 0, [])) := ⟨by decide +kernel, rfl, trivial⟩
theorem e_RN_load_27 : okE R_RN 0 b_RN_load (27, (.iconst 2, 28, 2, 0, 0, 0, 0, [])) := ⟨by decide +kernel, rfl, rfl⟩
theorem e_RN_load_28 : okE R_RN 0 b_RN_load (28, (.imul, 29, 0, 0, 0, 0, 0, [])) := ⟨by decide +kernel, rfl, trivial⟩
theorem e_RN_load_29 : okE R_RN 0 b_RN_load (29, (.iload_n 3, 30, 0, 0, 3, 0, 0, [])) := ⟨by decide +kernel, rfl, rfl⟩
theorem e_RN_load_30 : okE R_RN 0 b_RN_load (30, (.iadd, 31, 0, 0, 0, 0, 0, [])) := ⟨by decide +kernel, rfl, trivial⟩
theorem e_RN_load_31 : okE R_RN 0 b_RN_load (31, (.iaload, 32, 0, 0, 0, 0, 0, [])) := ⟨by decide +kernel, rfl, trivial⟩
theorem e_RN_load_32 : okE R_RN 0 b_RN_load (32, (.iastore, 33, 0, 0, 0, 0, 0, [])) := ⟨by decide +kernel, rfl, trivial⟩
theorem e_RN_load_33 : okE R_RN 0 b_RN_load (33, (.iconst 1, 34, 1, 0, 0, 0, 0, [])) := ⟨by decide +kernel, rfl, rfl⟩
theorem e_RN_load_34 : okE R_RN 0 b_RN_load (34, (.ireturn, 35, 0, 0, 0, 0, 0, [])) := ⟨by decide +kernel, rfl, trivial⟩
def k_RN_load : List (Nat × En) := [(0, (.aload_n 0, 1, 0, 0, 0, 0, 0, [])), (1, (.getfield 9, 4, 0, 0, 7, 0, 2, [])), (4, (.iload_n 2, 5, 0, 0, 2, 0, 0, [])), (5, (.iaload, 6, 0, 0, 0, 0, 0, [])), (6, (.iconst (-1), 7, (-1), 0, 0, 0, 0, [])), (7, (.if_icmp .ne 5, 10, 0, 0, 12, 0, 0, [])), (10, (.iconst 0, 11, 0, 0, 0, 0, 0, [])), (11, (.ireturn, 12, 0, 0, 0, 0, 0, [])), (12, (.aload_n 0, 13, 0, 0, 0, 0, 0, [])), (13, (.getfield 9, 16, 0, 0, 7, 0, 2, [])), (16, (.iload_n 1, 17, 0, 0, 1, 0, 0, [])), (17, (.aload_n 0, 18, 0, 0, 0, 0, 0, [])), (18, (.getfield 18, 21, 0, 0, 7, 2, 2, [])), (21, (.aload_n 0, 22, 0, 0, 0, 0, 0, [])), (22, (.getfield 9, 25, 0, 0, 7, 0, 2, [])), (25, (.iload_n 2, 26, 0, 0, 2, 0, 0, [])), (26, (.iaload, 27, 0, 0, 0, 0, 0, [])), (27, (.iconst 2, 28, 2, 0, 0, 0, 0, [])), (28, (.imul, 29, 0, 0, 0, 0, 0, [])), (29, (.iload_n 3, 30, 0, 0, 3, 0, 0, [])), (30, (.iadd, 31, 0, 0, 0, 0, 0, [])), (31, (.iaload, 32, 0, 0, 0, 0, 0, [])), (32, (.iastore, 33, 0, 0, 0, 0, 0, [])), (33, (.iconst 1, 34, 1, 0, 0, 0, 0, [])), (34, (.ireturn, 35, 0, 0, 0, 0, 0, []))]
set_option maxRecDepth 100000 in
theorem ok_RN_load : ∀ x ∈ k_RN_load, okE R_RN 0 b_RN_load x := fc e_RN_load_0 (fc e_RN_load_1 (fc e_RN_load_4 (fc e_RN_load_5 (fc e_RN_load_6 (fc e_RN_load_7 (fc e_RN_load_10 (fc e_RN_load_11 (fc e_RN_load_12 (fc e_RN_load_13 (fc e_RN_load_16 (fc e_RN_load_17 (fc e_RN_load_18 (fc e_RN_load_21 (fc e_RN_load_22 (fc e_RN_load_25 (fc e_RN_load_26 (fc e_RN_load_27 (fc e_RN_load_28 (fc e_RN_load_29 (fc e_RN_load_30 (fc e_RN_load_31 (fc e_RN_load_32 (fc e_RN_load_33 (fc e_RN_load_34 (fun _ h => absurd h List.not_mem_nil)))))))))))))))))))))))))
theorem rt_RN_load : ∀ x ∈ k_RN_load, okR 1 x.2.1 = true := by decide +kernel
theorem e_RN_store_0 : okE R_RN 0 b_RN_store (0, (.aload_n 0, 1, 0, 0, 0, 0, 0, [])) := ⟨by decide +kernel, rfl, rfl⟩
theorem e_RN_store_1 : okE R_RN 0 b_RN_store (1, (.getfield 9, 4, 0, 0, 7, 0, 2, [])) := ⟨by decide +kernel, rfl, ⟨_, _, _, rfl, by decide, wf_RN_9, rfl, rfl⟩⟩
theorem e_RN_store_4 : okE R_RN 0 b_RN_store (4, (.iload_n 1, 5, 0, 0, 1, 0, 0, [])) := ⟨by decide +kernel, rfl, rfl⟩
theorem e_RN_store_5 : okE R_RN 0 b_RN_store (5, (.iaload, 6, 0, 0, 0, 0, 0, [])) := ⟨by decide +kernel, rfl, trivial⟩
theorem e_RN_store_6 : okE R_RN 0 b_RN_store (6, (.iconst (-1), 7, (-1), 0, 0, 0, 0, [])) := ⟨by decide +kernel, rfl, rfl⟩
theorem e_RN_store_7 : okE R_RN 0 b_RN_store (7, (.if_icmp .ne 5, 10, 0, 0, 12, 0, 0, [])) := ⟨by decide +kernel, rfl, rfl⟩
theorem e_RN_store_10 : okE R_RN 0 b_RN_store (10, (.iconst 0, 11, 0, 0, 0, 0, 0, [])) := ⟨by decide +kernel, rfl, rfl⟩
theorem e_RN_store_11 : okE R_RN 0 b_RN_store (11, (.ireturn, 12, 0, 0, 0, 0, 0, [])) := ⟨by decide +kernel, rfl, trivial⟩
theorem e_RN_store_12 : okE R_RN 0 b_RN_store (12, (.aload_n 0, 13, 0, 0, 0, 0, 0, [])) := ⟨by decide +kernel, rfl, rfl⟩
theorem e_RN_store_13 : okE R_RN 0 b_RN_store (13, (.getfield 18, 16, 0, 0, 7, 2, 2, [])) := ⟨by decide +kernel, rfl, ⟨_, _, _, rfl, by decide, wf_RN_18, rfl, rfl⟩⟩
theorem e_RN_store_16 : okE R_RN 0 b_RN_store (16, (.aload_n 0, 17, 0, 0, 0, 0, 0, [])) := ⟨by decide +kernel, rfl, rfl⟩
theorem e_RN_store_17 : okE R_RN 0 b_RN_store (17, (.getfield 9, 20, 0, 0, 7, 0, 2, [])) := ⟨by decide +kernel, rfl, ⟨_, _, _, rfl, by decide, wf_RN_9, rfl, rfl⟩⟩
theorem e_RN_store_20 : okE R_RN 0 b_RN_store (20, (.iload_n 1, 21, 0, 0, 1, 0, 0, [])) := ⟨by decide +kernel, rfl, rfl⟩
theorem e_RN_store_21 : okE R_RN 0 b_RN_store (21, (.iaload, 22, 0, 0, 0, 0, 0, [])) := ⟨by decide +kernel, rfl, trivial⟩
theorem e_RN_store_22 : okE R_RN 0 b_RN_store (22, (.iconst 2, 23, 2, 0, 0, 0, 0, [])) := ⟨by decide +kernel, rfl, rfl⟩
theorem e_RN_store_23 : okE R_RN 0 b_RN_store (23, (.imul, 24, 0, 0, 0, 0, 0, [])) := ⟨by decide +kernel, rfl, trivial⟩
theorem e_RN_store_24 : okE R_RN 0 b_RN_store (24, (.iload_n 3, 25, 0, 0, 3, 0, 0, [])) := ⟨by decide +kernel, rfl, rfl⟩
theorem e_RN_store_25 : okE R_RN 0 b_RN_store (25, (.iadd, 26, 0, 0, 0, 0, 0, [])) := ⟨by decide +kernel, rfl, trivial⟩
theorem e_RN_store_26 : okE R_RN 0 b_RN_store (26, (.aload_n 0, 27, 0, 0, 0, 0, 0, [])) := ⟨by decide +kernel, rfl, rfl⟩
theorem e_RN_store_27 : okE R_RN 0 b_RN_store (27, (.getfield 9, 30, 0, 0, 7, 0, 2, [])) := ⟨by decide +kernel, rfl, ⟨_, _, _, rfl, by decide, wf_RN_9, rfl, rfl⟩⟩
theorem e_RN_store_30 : okE R_RN 0 b_RN_store (30, (.iload_n 2, 31, 0, 0, 2, 0, 0, [])) := ⟨by decide +kernel, rfl, rfl⟩
theorem e_RN_store_31 : okE R_RN 0 b_RN_store (31, (.iaload, 32, 0, 0, 0, 0, 0, [])) := ⟨by decide +kernel, rfl, trivial⟩
theorem e_RN_store_32 : okE R_RN 0 b_RN_store (32, (.iastore, 33, 0, 0, 0, 0, 0, [])) := ⟨by decide +kernel, rfl, trivial⟩
theorem e_RN_store_33 : okE R_RN 0 b_RN_store (33, (.iconst 1, 34, 1, 0, 0, 0, 0, [])) := ⟨by decide +kernel, rfl, rfl⟩
theorem e_RN_store_34 : okE R_RN 0 b_RN_store (34, (.ireturn, 35, 0, 0, 0, 0, 0, [])) := ⟨by decide +kernel, rfl, trivial⟩
def k_RN_store : List (Nat × En) := [(0, (.aload_n 0, 1, 0, 0, 0, 0, 0, [])), (1, (.getfield 9, 4, 0, 0, 7, 0, 2, [])), (4, (.iload_n 1, 5, 0, 0, 1, 0, 0, [])), (5, (.iaload, 6, 0, 0, 0, 0, 0, [])), (6, (.iconst (-1), 7, (-1), 0, 0, 0, 0, [])), (7, (.if_icmp .ne 5, 10, 0, 0, 12, 0, 0, [])), (10, (.iconst 0, 11, 0, 0, 0, 0, 0, [])), (11, (.ireturn, 12, 0, 0, 0, 0, 0, [])), (12, (.aload_n 0, 13, 0, 0, 0, 0, 0, [])), (13, (.getfield 18, 16, 0, 0, 7, 2, 2, [])), (16, (.aload_n 0, 17, 0, 0, 0, 0, 0, [])), (17, (.getfield 9, 20, 0, 0, 7, 0, 2, [])), (20, (.iload_n 1, 21, 0, 0, 1, 0, 0, [])), (21, (.iaload, 22, 0, 0, 0, 0, 0, [])), (22, (.iconst 2, 23, 2, 0, 0, 0, 0, [])), (23, (.imul, 24, 0, 0, 0, 0, 0, [])), (24, (.iload_n 3, 25, 0, 0, 3, 0, 0, [])), (25, (.iadd, 26, 0, 0, 0, 0, 0, [])), (26, (.aload_n 0, 27, 0, 0, 0, 0, 0, [])), (27, (.getfield 9, 30, 0, 0, 7, 0, 2, [])), (30, (.iload_n 2, 31, 0, 0, 2, 0, 0, [])), (31, (.iaload, 32, 0, 0, 0, 0, 0, [])), (32, (.iastore, 33, 0, 0, 0, 0, 0, [])), (33, (.iconst 1, 34, 1, 0, 0, 0, 0, [])), (34, (.ireturn, 35, 0, 0, 0, 0, 0, []))]
set_option maxRecDepth 100000 in
theorem ok_RN_store : ∀ x ∈ k_RN_store, okE R_RN 0 b_RN_store x := fc e_RN_store_0 (fc e_RN_store_1 (fc e_RN_store_4 (fc e_RN_store_5 (fc e_RN_store_6 (fc e_RN_store_7 (fc e_RN_store_10 (fc e_RN_store_11 (fc e_RN_store_12 (fc e_RN_store_13 (fc e_RN_store_16 (fc e_RN_store_17 (fc e_RN_store_20 (fc e_RN_store_21 (fc e_RN_store_22 (fc e_RN_store_23 (fc e_RN_store_24 (fc e_RN_store_25 (fc e_RN_store_26 (fc e_RN_store_27 (fc e_RN_store_30 (fc e_RN_store_31 (fc e_RN_store_32 (fc e_RN_store_33 (fc e_RN_store_34 (fun _ h => absurd h List.not_mem_nil)))))))))))))))))))))))))
theorem rt_RN_store : ∀ x ∈ k_RN_store, okR 1 x.2.1 = true := by decide +kernel
theorem e_RN_siteHeldBy_0 : okE R_RN 0 b_RN_siteHeldBy (0, (.aload_n 0, 1, 0, 0, 0, 0, 0, [])) := ⟨by decide +kernel, rfl, rfl⟩
theorem e_RN_siteHeldBy_1 : okE R_RN 0 b_RN_siteHeldBy (1, (.getfield 9, 4, 0, 0, 7, 0, 2, [])) := ⟨by decide +kernel, rfl, ⟨_, _, _, rfl, by decide, wf_RN_9, rfl, rfl⟩⟩
theorem e_RN_siteHeldBy_4 : okE R_RN 0 b_RN_siteHeldBy (4, (.iload_n 1, 5, 0, 0, 1, 0, 0, [])) := ⟨by decide +kernel, rfl, rfl⟩
theorem e_RN_siteHeldBy_5 : okE R_RN 0 b_RN_siteHeldBy (5, (.iaload, 6, 0, 0, 0, 0, 0, [])) := ⟨by decide +kernel, rfl, trivial⟩
theorem e_RN_siteHeldBy_6 : okE R_RN 0 b_RN_siteHeldBy (6, (.iconst (-1), 7, (-1), 0, 0, 0, 0, [])) := ⟨by decide +kernel, rfl, rfl⟩
theorem e_RN_siteHeldBy_7 : okE R_RN 0 b_RN_siteHeldBy (7, (.if_icmp .ne 7, 10, 0, 0, 14, 0, 0, [])) := ⟨by decide +kernel, rfl, rfl⟩
theorem e_RN_siteHeldBy_10 : okE R_RN 0 b_RN_siteHeldBy (10, (.iconst (-1), 11, (-1), 0, 0, 0, 0, [])) := ⟨by decide +kernel, rfl, rfl⟩
theorem e_RN_siteHeldBy_11 : okE R_RN 0 b_RN_siteHeldBy (11, (.goto 14, 14, 0, 0, 25, 0, 0, [])) := ⟨by decide +kernel, rfl, rfl⟩
theorem e_RN_siteHeldBy_14 : okE R_RN 0 b_RN_siteHeldBy (14, (.aload_n 0, 15, 0, 0, 0, 0, 0, [])) := ⟨by decide +kernel, rfl, rfl⟩
theorem e_RN_siteHeldBy_15 : okE R_RN 0 b_RN_siteHeldBy (15, (.getfield 15, 18, 0, 0, 7, 1, 2, [])) := ⟨by decide +kernel, rfl, ⟨_, _, _, rfl, by decide, wf_RN_15, rfl, rfl⟩⟩
theorem e_RN_siteHeldBy_18 : okE R_RN 0 b_RN_siteHeldBy (18, (.aload_n 0, 19, 0, 0, 0, 0, 0, [])) := ⟨by decide +kernel, rfl, rfl⟩
theorem e_RN_siteHeldBy_19 : okE R_RN 0 b_RN_siteHeldBy (19, (.getfield 9, 22, 0, 0, 7, 0, 2, [])) := ⟨by decide +kernel, rfl, ⟨_, _, _, rfl, by decide, wf_RN_9, rfl, rfl⟩⟩
theorem e_RN_siteHeldBy_22 : okE R_RN 0 b_RN_siteHeldBy (22, (.iload_n 1, 23, 0, 0, 1, 0, 0, [])) := ⟨by decide +kernel, rfl, rfl⟩
theorem e_RN_siteHeldBy_23 : okE R_RN 0 b_RN_siteHeldBy (23, (.iaload, 24, 0, 0, 0, 0, 0, [])) := ⟨by decide +kernel, rfl, trivial⟩
theorem e_RN_siteHeldBy_24 : okE R_RN 0 b_RN_siteHeldBy (24, (.iaload, 25, 0, 0, 0, 0, 0, [])) := ⟨by decide +kernel, rfl, trivial⟩
theorem e_RN_siteHeldBy_25 : okE R_RN 0 b_RN_siteHeldBy (25, (.ireturn, 26, 0, 0, 0, 0, 0, [])) := ⟨by decide +kernel, rfl, trivial⟩
def k_RN_siteHeldBy : List (Nat × En) := [(0, (.aload_n 0, 1, 0, 0, 0, 0, 0, [])), (1, (.getfield 9, 4, 0, 0, 7, 0, 2, [])), (4, (.iload_n 1, 5, 0, 0, 1, 0, 0, [])), (5, (.iaload, 6, 0, 0, 0, 0, 0, [])), (6, (.iconst (-1), 7, (-1), 0, 0, 0, 0, [])), (7, (.if_icmp .ne 7, 10, 0, 0, 14, 0, 0, [])), (10, (.iconst (-1), 11, (-1), 0, 0, 0, 0, [])), (11, (.goto 14, 14, 0, 0, 25, 0, 0, [])), (14, (.aload_n 0, 15, 0, 0, 0, 0, 0, [])), (15, (.getfield 15, 18, 0, 0, 7, 1, 2, [])), (18, (.aload_n 0, 19, 0, 0, 0, 0, 0, [])), (19, (.getfield 9, 22, 0, 0, 7, 0, 2, [])), (22, (.iload_n 1, 23, 0, 0, 1, 0, 0, [])), (23, (.iaload, 24, 0, 0, 0, 0, 0, [])), (24, (.iaload, 25, 0, 0, 0, 0, 0, [])), (25, (.ireturn, 26, 0, 0, 0, 0, 0, []))]
set_option maxRecDepth 100000 in
theorem ok_RN_siteHeldBy : ∀ x ∈ k_RN_siteHeldBy, okE R_RN 0 b_RN_siteHeldBy x := fc e_RN_siteHeldBy_0 (fc e_RN_siteHeldBy_1 (fc e_RN_siteHeldBy_4 (fc e_RN_siteHeldBy_5 (fc e_RN_siteHeldBy_6 (fc e_RN_siteHeldBy_7 (fc e_RN_siteHeldBy_10 (fc e_RN_siteHeldBy_11 (fc e_RN_siteHeldBy_14 (fc e_RN_siteHeldBy_15 (fc e_RN_siteHeldBy_18 (fc e_RN_siteHeldBy_19 (fc e_RN_siteHeldBy_22 (fc e_RN_siteHeldBy_23 (fc e_RN_siteHeldBy_24 (fc e_RN_siteHeldBy_25 (fun _ h => absurd h List.not_mem_nil))))))))))))))))
theorem rt_RN_siteHeldBy : ∀ x ∈ k_RN_siteHeldBy, okR 0 x.2.1 = true := by decide +kernel
theorem e_AR_fill_0 : okE R_AR 0 b_AR_fill (0, (.iconst 0, 1, 0, 0, 0, 0, 0, [])) := ⟨by decide +kernel, rfl, rfl⟩
theorem e_AR_fill_1 : okE R_AR 0 b_AR_fill (1, (.istore_n 2, 2, 0, 0, 2, 0, 0, [])) := ⟨by decide +kernel, rfl, rfl⟩
theorem e_AR_fill_2 : okE R_AR 0 b_AR_fill (2, (.aload_n 0, 3, 0, 0, 0, 0, 0, [])) := ⟨by decide +kernel, rfl, rfl⟩
theorem e_AR_fill_3 : okE R_AR 0 b_AR_fill (3, (.arraylength, 4, 0, 0, 0, 0, 0, [])) := ⟨by decide +kernel, rfl, trivial⟩
theorem e_AR_fill_4 : okE R_AR 0 b_AR_fill (4, (.istore_n 3, 5, 0, 0, 3, 0, 0, [])) := ⟨by decide +kernel, rfl, rfl⟩
theorem e_AR_fill_5 : okE R_AR 0 b_AR_fill (5, (.iload_n 2, 6, 0, 0, 2, 0, 0, [])) := ⟨by decide +kernel, rfl, rfl⟩
theorem e_AR_fill_6 : okE R_AR 0 b_AR_fill (6, (.iload_n 3, 7, 0, 0, 3, 0, 0, [])) := ⟨by decide +kernel, rfl, rfl⟩
theorem e_AR_fill_7 : okE R_AR 0 b_AR_fill (7, (.if_icmp .ge 13, 10, 0, 0, 20, 0, 0, [])) := ⟨by decide +kernel, rfl, rfl⟩
theorem e_AR_fill_10 : okE R_AR 0 b_AR_fill (10, (.aload_n 0, 11, 0, 0, 0, 0, 0, [])) := ⟨by decide +kernel, rfl, rfl⟩
theorem e_AR_fill_11 : okE R_AR 0 b_AR_fill (11, (.iload_n 2, 12, 0, 0, 2, 0, 0, [])) := ⟨by decide +kernel, rfl, rfl⟩
theorem e_AR_fill_12 : okE R_AR 0 b_AR_fill (12, (.iload_n 1, 13, 0, 0, 1, 0, 0, [])) := ⟨by decide +kernel, rfl, rfl⟩
theorem e_AR_fill_13 : okE R_AR 0 b_AR_fill (13, (.iastore, 14, 0, 0, 0, 0, 0, [])) := ⟨by decide +kernel, rfl, trivial⟩
theorem e_AR_fill_14 : okE R_AR 0 b_AR_fill (14, (.iinc 2 1, 17, 1, 0, 2, 0, 0, [])) := ⟨by decide +kernel, rfl, ⟨rfl, rfl⟩⟩
theorem e_AR_fill_17 : okE R_AR 0 b_AR_fill (17, (.goto (-12), 20, 0, 0, 5, 0, 0, [])) := ⟨by decide +kernel, rfl, rfl⟩
theorem e_AR_fill_20 : okE R_AR 0 b_AR_fill (20, (.return_, 21, 0, 0, 0, 0, 0, [])) := ⟨by decide +kernel, rfl, trivial⟩
def k_AR_fill : List (Nat × En) := [(0, (.iconst 0, 1, 0, 0, 0, 0, 0, [])), (1, (.istore_n 2, 2, 0, 0, 2, 0, 0, [])), (2, (.aload_n 0, 3, 0, 0, 0, 0, 0, [])), (3, (.arraylength, 4, 0, 0, 0, 0, 0, [])), (4, (.istore_n 3, 5, 0, 0, 3, 0, 0, [])), (5, (.iload_n 2, 6, 0, 0, 2, 0, 0, [])), (6, (.iload_n 3, 7, 0, 0, 3, 0, 0, [])), (7, (.if_icmp .ge 13, 10, 0, 0, 20, 0, 0, [])), (10, (.aload_n 0, 11, 0, 0, 0, 0, 0, [])), (11, (.iload_n 2, 12, 0, 0, 2, 0, 0, [])), (12, (.iload_n 1, 13, 0, 0, 1, 0, 0, [])), (13, (.iastore, 14, 0, 0, 0, 0, 0, [])), (14, (.iinc 2 1, 17, 1, 0, 2, 0, 0, [])), (17, (.goto (-12), 20, 0, 0, 5, 0, 0, [])), (20, (.return_, 21, 0, 0, 0, 0, 0, []))]
set_option maxRecDepth 100000 in
theorem ok_AR_fill : ∀ x ∈ k_AR_fill, okE R_AR 0 b_AR_fill x := fc e_AR_fill_0 (fc e_AR_fill_1 (fc e_AR_fill_2 (fc e_AR_fill_3 (fc e_AR_fill_4 (fc e_AR_fill_5 (fc e_AR_fill_6 (fc e_AR_fill_7 (fc e_AR_fill_10 (fc e_AR_fill_11 (fc e_AR_fill_12 (fc e_AR_fill_13 (fc e_AR_fill_14 (fc e_AR_fill_17 (fc e_AR_fill_20 (fun _ h => absurd h List.not_mem_nil)))))))))))))))
theorem rt_AR_fill : ∀ x ∈ k_AR_fill, okR 3 x.2.1 = true := by decide +kernel
theorem e_LG_bitCount_0 : okE R_LG 0 b_LG_bitCount (0, (.lload_n 0, 1, 0, 0, 0, 0, 0, [])) := ⟨by decide +kernel, rfl, rfl⟩
theorem e_LG_bitCount_1 : okE R_LG 0 b_LG_bitCount (1, (.lload_n 0, 2, 0, 0, 0, 0, 0, [])) := ⟨by decide +kernel, rfl, rfl⟩
theorem e_LG_bitCount_2 : okE R_LG 0 b_LG_bitCount (2, (.iconst 1, 3, 1, 0, 0, 0, 0, [])) := ⟨by decide +kernel, rfl, rfl⟩
theorem e_LG_bitCount_3 : okE R_LG 0 b_LG_bitCount (3, (.lushr, 4, 0, 0, 0, 0, 0, [])) := ⟨by decide +kernel, rfl, trivial⟩
theorem e_LG_bitCount_4 : okE R_LG 0 b_LG_bitCount (4, (.ldc2_w 314, 7, 0, 6148914691236517205, 0, 0, 0, [])) := ⟨by decide +kernel, rfl, wL_LG_314⟩
theorem e_LG_bitCount_7 : okE R_LG 0 b_LG_bitCount (7, (.land, 8, 0, 0, 0, 0, 0, [])) := ⟨by decide +kernel, rfl, trivial⟩
theorem e_LG_bitCount_8 : okE R_LG 0 b_LG_bitCount (8, (.lsub, 9, 0, 0, 0, 0, 0, [])) := ⟨by decide +kernel, rfl, trivial⟩
theorem e_LG_bitCount_9 : okE R_LG 0 b_LG_bitCount (9, (.lstore_n 0, 10, 0, 0, 0, 0, 0, [])) := ⟨by decide +kernel, rfl, rfl⟩
theorem e_LG_bitCount_10 : okE R_LG 0 b_LG_bitCount (10, (.lload_n 0, 11, 0, 0, 0, 0, 0, [])) := ⟨by decide +kernel, rfl, rfl⟩
theorem e_LG_bitCount_11 : okE R_LG 0 b_LG_bitCount (11, (.ldc2_w 316, 14, 0, 3689348814741910323, 0, 0, 0, [])) := ⟨by decide +kernel, rfl, wL_LG_316⟩
theorem e_LG_bitCount_14 : okE R_LG 0 b_LG_bitCount (14, (.land, 15, 0, 0, 0, 0, 0, [])) := ⟨by decide +kernel, rfl, trivial⟩
theorem e_LG_bitCount_15 : okE R_LG 0 b_LG_bitCount (15, (.lload_n 0, 16, 0, 0, 0, 0, 0, [])) := ⟨by decide +kernel, rfl, rfl⟩
theorem e_LG_bitCount_16 : okE R_LG 0 b_LG_bitCount (16, (.iconst 2, 17, 2, 0, 0, 0, 0, [])) := ⟨by decide +kernel, rfl, rfl⟩
theorem e_LG_bitCount_17 : okE R_LG 0 b_LG_bitCount (17, (.lushr, 18, 0, 0, 0, 0, 0, [])) := ⟨by decide +kernel, rfl, trivial⟩
theorem e_LG_bitCount_18 : okE R_LG 0 b_LG_bitCount (18, (.ldc2_w 316, 21, 0, 3689348814741910323, 0, 0, 0, [])) := ⟨by decide +kernel, rfl, wL_LG_316⟩
theorem e_LG_bitCount_21 : okE R_LG 0 b_LG_bitCount (21, (.land, 22, 0, 0, 0, 0, 0, [])) := ⟨by decide +kernel, rfl, trivial⟩
theorem e_LG_bitCount_22 : okE R_LG 0 b_LG_bitCount (22, (.ladd, 23, 0, 0, 0, 0, 0, [])) := ⟨by decide +kernel, rfl, trivial⟩
theorem e_LG_bitCount_23 : okE R_LG 0 b_LG_bitCount (23, (.lstore_n 0, 24, 0, 0, 0, 0, 0, [])) := ⟨by decide +kernel, rfl, rfl⟩
theorem e_LG_bitCount_24 : okE R_LG 0 b_LG_bitCount (24, (.lload_n 0, 25, 0, 0, 0, 0, 0, [])) := ⟨by decide +kernel, rfl, rfl⟩
theorem e_LG_bitCount_25 : okE R_LG 0 b_LG_bitCount (25, (.lload_n 0, 26, 0, 0, 0, 0, 0, [])) := ⟨by decide +kernel, rfl, rfl⟩
theorem e_LG_bitCount_26 : okE R_LG 0 b_LG_bitCount (26, (.iconst 4, 27, 4, 0, 0, 0, 0, [])) := ⟨by decide +kernel, rfl, rfl⟩
theorem e_LG_bitCount_27 : okE R_LG 0 b_LG_bitCount (27, (.lushr, 28, 0, 0, 0, 0, 0, [])) := ⟨by decide +kernel, rfl, trivial⟩
theorem e_LG_bitCount_28 : okE R_LG 0 b_LG_bitCount (28, (.ladd, 29, 0, 0, 0, 0, 0, [])) := ⟨by decide +kernel, rfl, trivial⟩
theorem e_LG_bitCount_29 : okE R_LG 0 b_LG_bitCount (29, (.ldc2_w 318, 32, 0, 1085102592571150095, 0, 0, 0, [])) := ⟨by decide +kernel, rfl, wL_LG_318⟩
theorem e_LG_bitCount_32 : okE R_LG 0 b_LG_bitCount (32, (.land, 33, 0, 0, 0, 0, 0, [])) := ⟨by decide +kernel, rfl, trivial⟩
theorem e_LG_bitCount_33 : okE R_LG 0 b_LG_bitCount (33, (.lstore_n 0, 34, 0, 0, 0, 0, 0, [])) := ⟨by decide +kernel, rfl, rfl⟩
theorem e_LG_bitCount_34 : okE R_LG 0 b_LG_bitCount (34, (.lload_n 0, 35, 0, 0, 0, 0, 0, [])) := ⟨by decide +kernel, rfl, rfl⟩
theorem e_LG_bitCount_35 : okE R_LG 0 b_LG_bitCount (35, (.lload_n 0, 36, 0, 0, 0, 0, 0, [])) := ⟨by decide +kernel, rfl, rfl⟩
theorem e_LG_bitCount_36 : okE R_LG 0 b_LG_bitCount (36, (.bipush 8, 38, 8, 0, 0, 0, 0, [])) := ⟨by decide +kernel, rfl, rfl⟩
theorem e_LG_bitCount_38 : okE R_LG 0 b_LG_bitCount (38, (.lushr, 39, 0, 0, 0, 0, 0, [])) := ⟨by decide +kernel, rfl, trivial⟩
theorem e_LG_bitCount_39 : okE R_LG 0 b_LG_bitCount (39, (.ladd, 40, 0, 0, 0, 0, 0, [])) := ⟨by decide +kernel, rfl, trivial⟩
theorem e_LG_bitCount_40 : okE R_LG 0 b_LG_bitCount (40, (.lstore_n 0, 41, 0, 0, 0, 0, 0, [])) := ⟨by decide +kernel, rfl, rfl⟩
theorem e_LG_bitCount_41 : okE R_LG 0 b_LG_bitCount (41, (.lload_n 0, 42, 0, 0, 0, 0, 0, [])) := ⟨by decide +kernel, rfl, rfl⟩
theorem e_LG_bitCount_42 : okE R_LG 0 b_LG_bitCount (42, (.lload_n 0, 43, 0, 0, 0, 0, 0, [])) := ⟨by decide +kernel, rfl, rfl⟩
theorem e_LG_bitCount_43 : okE R_LG 0 b_LG_bitCount (43, (.bipush 16, 45, 16, 0, 0, 0, 0, [])) := ⟨by decide +kernel, rfl, rfl⟩
theorem e_LG_bitCount_45 : okE R_LG 0 b_LG_bitCount (45, (.lushr, 46, 0, 0, 0, 0, 0, [])) := ⟨by decide +kernel, rfl, trivial⟩
theorem e_LG_bitCount_46 : okE R_LG 0 b_LG_bitCount (46, (.ladd, 47, 0, 0, 0, 0, 0, [])) := ⟨by decide +kernel, rfl, trivial⟩
theorem e_LG_bitCount_47 : okE R_LG 0 b_LG_bitCount (47, (.lstore_n 0, 48, 0, 0, 0, 0, 0, [])) := ⟨by decide +kernel, rfl, rfl⟩
theorem e_LG_bitCount_48 : okE R_LG 0 b_LG_bitCount (48, (.lload_n 0, 49, 0, 0, 0, 0, 0, [])) := ⟨by decide +kernel, rfl, rfl⟩
theorem e_LG_bitCount_49 : okE R_LG 0 b_LG_bitCount (49, (.lload_n 0, 50, 0, 0, 0, 0, 0, [])) := ⟨by decide +kernel, rfl, rfl⟩
theorem e_LG_bitCount_50 : okE R_LG 0 b_LG_bitCount (50, (.bipush 32, 52, 32, 0, 0, 0, 0, [])) := ⟨by decide +kernel, rfl, rfl⟩
theorem e_LG_bitCount_52 : okE R_LG 0 b_LG_bitCount (52, (.lushr, 53, 0, 0, 0, 0, 0, [])) := ⟨by decide +kernel, rfl, trivial⟩
theorem e_LG_bitCount_53 : okE R_LG 0 b_LG_bitCount (53, (.ladd, 54, 0, 0, 0, 0, 0, [])) := ⟨by decide +kernel, rfl, trivial⟩
theorem e_LG_bitCount_54 : okE R_LG 0 b_LG_bitCount (54, (.lstore_n 0, 55, 0, 0, 0, 0, 0, [])) := ⟨by decide +kernel, rfl, rfl⟩
theorem e_LG_bitCount_55 : okE R_LG 0 b_LG_bitCount (55, (.lload_n 0, 56, 0, 0, 0, 0, 0, [])) := ⟨by decide +kernel, rfl, rfl⟩
theorem e_LG_bitCount_56 : okE R_LG 0 b_LG_bitCount (56, (.l2i, 57, 0, 0, 0, 0, 0, [])) := ⟨by decide +kernel, rfl, trivial⟩
theorem e_LG_bitCount_57 : okE R_LG 0 b_LG_bitCount (57, (.bipush 127, 59, 127, 0, 0, 0, 0, [])) := ⟨by decide +kernel, rfl, rfl⟩
theorem e_LG_bitCount_59 : okE R_LG 0 b_LG_bitCount (59, (.iand, 60, 0, 0, 0, 0, 0, [])) := ⟨by decide +kernel, rfl, trivial⟩
theorem e_LG_bitCount_60 : okE R_LG 0 b_LG_bitCount (60, (.ireturn, 61, 0, 0, 0, 0, 0, [])) := ⟨by decide +kernel, rfl, trivial⟩
def k_LG_bitCount : List (Nat × En) := [(0, (.lload_n 0, 1, 0, 0, 0, 0, 0, [])), (1, (.lload_n 0, 2, 0, 0, 0, 0, 0, [])), (2, (.iconst 1, 3, 1, 0, 0, 0, 0, [])), (3, (.lushr, 4, 0, 0, 0, 0, 0, [])), (4, (.ldc2_w 314, 7, 0, 6148914691236517205, 0, 0, 0, [])), (7, (.land, 8, 0, 0, 0, 0, 0, [])), (8, (.lsub, 9, 0, 0, 0, 0, 0, [])), (9, (.lstore_n 0, 10, 0, 0, 0, 0, 0, [])), (10, (.lload_n 0, 11, 0, 0, 0, 0, 0, [])), (11, (.ldc2_w 316, 14, 0, 3689348814741910323, 0, 0, 0, [])), (14, (.land, 15, 0, 0, 0, 0, 0, [])), (15, (.lload_n 0, 16, 0, 0, 0, 0, 0, [])), (16, (.iconst 2, 17, 2, 0, 0, 0, 0, [])), (17, (.lushr, 18, 0, 0, 0, 0, 0, [])), (18, (.ldc2_w 316, 21, 0, 3689348814741910323, 0, 0, 0, [])), (21, (.land, 22, 0, 0, 0, 0, 0, [])), (22, (.ladd, 23, 0, 0, 0, 0, 0, [])), (23, (.lstore_n 0, 24, 0, 0, 0, 0, 0, [])), (24, (.lload_n 0, 25, 0, 0, 0, 0, 0, [])), (25, (.lload_n 0, 26, 0, 0, 0, 0, 0, [])), (26, (.iconst 4, 27, 4, 0, 0, 0, 0, [])), (27, (.lushr, 28, 0, 0, 0, 0, 0, [])), (28, (.ladd, 29, 0, 0, 0, 0, 0, [])), (29, (.ldc2_w 318, 32, 0, 1085102592571150095, 0, 0, 0, [])), (32, (.land, 33, 0, 0, 0, 0, 0, [])), (33, (.lstore_n 0, 34, 0, 0, 0, 0, 0, [])), (34, (.lload_n 0, 35, 0, 0, 0, 0, 0, [])), (35, (.lload_n 0, 36, 0, 0, 0, 0, 0, [])), (36, (.bipush 8, 38, 8, 0, 0, 0, 0, [])), (38, (.lushr, 39, 0, 0, 0, 0, 0, [])), (39, (.ladd, 40, 0, 0, 0, 0, 0, [])), (40, (.lstore_n 0, 41, 0, 0, 0, 0, 0, [])), (41, (.lload_n 0, 42, 0, 0, 0, 0, 0, [])), (42, (.lload_n 0, 43, 0, 0, 0, 0, 0, [])), (43, (.bipush 16, 45, 16, 0, 0, 0, 0, [])), (45, (.lushr, 46, 0, 0, 0, 0, 0, [])), (46, (.ladd, 47, 0, 0, 0, 0, 0, [])), (47, (.lstore_n 0, 48, 0, 0, 0, 0, 0, [])), (48, (.lload_n 0, 49, 0, 0, 0, 0, 0, [])), (49, (.lload_n 0, 50, 0, 0, 0, 0, 0, [])), (50, (.bipush 32, 52, 32, 0, 0, 0, 0, [])), (52, (.lushr, 53, 0, 0, 0, 0, 0, [])), (53, (.ladd, 54, 0, 0, 0, 0, 0, [])), (54, (.lstore_n 0, 55, 0, 0, 0, 0, 0, [])), (55, (.lload_n 0, 56, 0, 0, 0, 0, 0, [])), (56, (.l2i, 57, 0, 0, 0, 0, 0, [])), (57, (.bipush 127, 59, 127, 0, 0, 0, 0, [])), (59, (.iand, 60, 0, 0, 0, 0, 0, [])), (60, (.ireturn, 61, 0, 0, 0, 0, 0, []))]
set_option maxRecDepth 100000 in
theorem ok_LG_bitCount : ∀ x ∈ k_LG_bitCount, okE R_LG 0 b_LG_bitCount x := fc e_LG_bitCount_0 (fc e_LG_bitCount_1 (fc e_LG_bitCount_2 (fc e_LG_bitCount_3 (fc e_LG_bitCount_4 (fc e_LG_bitCount_7 (fc e_LG_bitCount_8 (fc e_LG_bitCount_9 (fc e_LG_bitCount_10 (fc e_LG_bitCount_11 (fc e_LG_bitCount_14 (fc e_LG_bitCount_15 (fc e_LG_bitCount_16 (fc e_LG_bitCount_17 (fc e_LG_bitCount_18 (fc e_LG_bitCount_21 (fc e_LG_bitCount_22 (fc e_LG_bitCount_23 (fc e_LG_bitCount_24 (fc e_LG_bitCount_25 (fc e_LG_bitCount_26 (fc e_LG_bitCount_27 (fc e_LG_bitCount_28 (fc e_LG_bitCount_29 (fc e_LG_bitCount_32 (fc e_LG_bitCount_33 (fc e_LG_bitCount_34 (fc e_LG_bitCount_35 (fc e_LG_bitCount_36 (fc e_LG_bitCount_38 (fc e_LG_bitCount_39 (fc e_LG_bitCount_40 (fc e_LG_bitCount_41 (fc e_LG_bitCount_42 (fc e_LG_bitCount_43 (fc e_LG_bitCount_45 (fc e_LG_bitCount_46 (fc e_LG_bitCount_47 (fc e_LG_bitCount_48 (fc e_LG_bitCount_49 (fc e_LG_bitCount_50 (fc e_LG_bitCount_52 (fc e_LG_bitCount_53 (fc e_LG_bitCount_54 (fc e_LG_bitCount_55 (fc e_LG_bitCount_56 (fc e_LG_bitCount_57 (fc e_LG_bitCount_59 (fc e_LG_bitCount_60 (fun _ h => absurd h List.not_mem_nil)))))))))))))))))))))))))))))))))))))))))))))))))
theorem rt_LG_bitCount : ∀ x ∈ k_LG_bitCount, okR 0 x.2.1 = true := by decide +kernel
