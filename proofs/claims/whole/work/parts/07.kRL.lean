theorem e_RL_init_0 : okE R_RL 1 b_RL_init (0, (.aload_n 0, 1, 0, 0, 0, 0, 0, [])) := ⟨by decide +kernel, rfl, rfl⟩
theorem e_RL_init_1 : okE R_RL 1 b_RL_init (1, (.invokespecial 3, 4, 0, 0, 0, 0, 0, [])) := ⟨by decide +kernel, rfl, trivial⟩
theorem e_RL_init_4 : okE R_RL 1 b_RL_init (4, (.aload_n 0, 5, 0, 0, 0, 0, 0, [])) := ⟨by decide +kernel, rfl, rfl⟩
theorem e_RL_init_5 : okE R_RL 1 b_RL_init (5, (.new 9, 8, 0, 0, 5, 0, 0, [])) := ⟨by decide +kernel, rfl, ⟨_, _, _, rfl, rfl, wc_RL_9, wn_LI, wi_LI⟩⟩
theorem e_RL_init_8 : okE R_RL 1 b_RL_init (8, (.dup, 9, 0, 0, 0, 0, 0, [])) := ⟨by decide +kernel, rfl, trivial⟩
theorem e_RL_init_9 : okE R_RL 1 b_RL_init (9, (.invokespecial 11, 12, 0, 0, 1, 0, 0, [])) := ⟨by decide +kernel, rfl, trivial⟩
theorem e_RL_init_12 : okE R_RL 1 b_RL_init (12, (.putfield 12, 15, 0, 0, 4, 0, 2, [])) := ⟨by decide +kernel, rfl, ⟨⟨_, _, _, rfl, by decide, wf_RL_12, rfl, rfl⟩, ⟨_, _, _, rfl, Or.inr ⟨rfl, rfl, rfl⟩, ⟨_, tk_RL.1 0 (by decide), fun a => ⟨rfl, rfl⟩⟩⟩⟩⟩
theorem e_RL_init_15 : okE R_RL 1 b_RL_init (15, (.aload_n 0, 16, 0, 0, 0, 0, 0, [])) := ⟨by decide +kernel, rfl, rfl⟩
theorem e_RL_init_16 : okE R_RL 1 b_RL_init (16, (.iconst 3, 17, 3, 0, 0, 0, 0, [])) := ⟨by decide +kernel, rfl, rfl⟩
theorem e_RL_init_17 : okE R_RL 1 b_RL_init (17, (.anewarray 9, 20, 0, 0, 3, 0, 0, [])) := ⟨by decide +kernel, rfl, Or.inl ⟨rfl, wc_RL_9⟩⟩
theorem e_RL_init_20 : okE R_RL 1 b_RL_init (20, (.putfield 18, 23, 0, 0, 4, 1, 2, [])) := ⟨by decide +kernel, rfl, ⟨⟨_, _, _, rfl, by decide, wf_RL_18, rfl, rfl⟩, ⟨_, _, _, rfl, Or.inr ⟨rfl, rfl, rfl⟩, ⟨_, tk_RL.1 1 (by decide), fun a => ⟨rfl, rfl⟩⟩⟩⟩⟩
theorem e_RL_init_23 : okE R_RL 1 b_RL_init (23, (.iconst 0, 24, 0, 0, 0, 0, 0, [])) := ⟨by decide +kernel, rfl, rfl⟩
theorem e_RL_init_24 : okE R_RL 1 b_RL_init (24, (.istore_n 1, 25, 0, 0, 1, 0, 0, [])) := ⟨by decide +kernel, rfl, rfl⟩
theorem e_RL_init_25 : okE R_RL 1 b_RL_init (25, (.iload_n 1, 26, 0, 0, 1, 0, 0, [])) := ⟨by decide +kernel, rfl, rfl⟩
theorem e_RL_init_26 : okE R_RL 1 b_RL_init (26, (.iconst 3, 27, 3, 0, 0, 0, 0, [])) := ⟨by decide +kernel, rfl, rfl⟩
theorem e_RL_init_27 : okE R_RL 1 b_RL_init (27, (.if_icmp .ge 22, 30, 0, 0, 49, 0, 0, [])) := ⟨by decide +kernel, rfl, rfl⟩
theorem e_RL_init_30 : okE R_RL 1 b_RL_init (30, (.aload_n 0, 31, 0, 0, 0, 0, 0, [])) := ⟨by decide +kernel, rfl, rfl⟩
theorem e_RL_init_31 : okE R_RL 1 b_RL_init (31, (.getfield 18, 34, 0, 0, 4, 1, 2, [])) := ⟨by decide +kernel, rfl, ⟨_, _, _, rfl, by decide, wf_RL_18, rfl, rfl⟩⟩
theorem e_RL_init_34 : okE R_RL 1 b_RL_init (34, (.iload_n 1, 35, 0, 0, 1, 0, 0, [])) := ⟨by decide +kernel, rfl, rfl⟩
theorem e_RL_init_35 : okE R_RL 1 b_RL_init (35, (.new 9, 38, 0, 0, 5, 0, 0, [])) := ⟨by decide +kernel, rfl, ⟨_, _, _, rfl, rfl, wc_RL_9, wn_LI, wi_LI⟩⟩
theorem e_RL_init_38 : okE R_RL 1 b_RL_init (38, (.dup, 39, 0, 0, 0, 0, 0, [])) := ⟨by decide +kernel, rfl, trivial⟩
theorem e_RL_init_39 : okE R_RL 1 b_RL_init (39, (.invokespecial 11, 42, 0, 0, 1, 0, 0, [])) := ⟨by decide +kernel, rfl, trivial⟩
theorem e_RL_init_42 : okE R_RL 1 b_RL_init (42, (.aastore, 43, 0, 0, 3, 5, 0, [])) := ⟨by decide +kernel, rfl, ⟨_, rfl, Or.inl ⟨rfl, rfl⟩⟩⟩
theorem e_RL_init_43 : okE R_RL 1 b_RL_init (43, (.iinc 1 1, 46, 1, 0, 1, 0, 0, [])) := ⟨by decide +kernel, rfl, ⟨rfl, rfl⟩⟩
theorem e_RL_init_46 : okE R_RL 1 b_RL_init (46, (.goto (-21), 49, 0, 0, 25, 0, 0, [])) := ⟨by decide +kernel, rfl, rfl⟩
theorem e_RL_init_49 : okE R_RL 1 b_RL_init (49, (.return_, 50, 0, 0, 0, 0, 0, [])) := ⟨by decide +kernel, rfl, trivial⟩
def k_RL_init : List (Nat × En) := [(0, (.aload_n 0, 1, 0, 0, 0, 0, 0, [])), (1, (.invokespecial 3, 4, 0, 0, 0, 0, 0, [])), (4, (.aload_n 0, 5, 0, 0, 0, 0, 0, [])), (5, (.new 9, 8, 0, 0, 5, 0, 0, [])), (8, (.dup, 9, 0, 0, 0, 0, 0, [])), (9, (.invokespecial 11, 12, 0, 0, 1, 0, 0, [])), (12, (.putfield 12, 15, 0, 0, 4, 0, 2, [])), (15, (.aload_n 0, 16, 0, 0, 0, 0, 0, [])), (16, (.iconst 3, 17, 3, 0, 0, 0, 0, [])), (17, (.anewarray 9, 20, 0, 0, 3, 0, 0, [])), (20, (.putfield 18, 23, 0, 0, 4, 1, 2, [])), (23, (.iconst 0, 24, 0, 0, 0, 0, 0, [])), (24, (.istore_n 1, 25, 0, 0, 1, 0, 0, [])), (25, (.iload_n 1, 26, 0, 0, 1, 0, 0, [])), (26, (.iconst 3, 27, 3, 0, 0, 0, 0, [])), (27, (.if_icmp .ge 22, 30, 0, 0, 49, 0, 0, [])), (30, (.aload_n 0, 31, 0, 0, 0, 0, 0, [])), (31, (.getfield 18, 34, 0, 0, 4, 1, 2, [])), (34, (.iload_n 1, 35, 0, 0, 1, 0, 0, [])), (35, (.new 9, 38, 0, 0, 5, 0, 0, [])), (38, (.dup, 39, 0, 0, 0, 0, 0, [])), (39, (.invokespecial 11, 42, 0, 0, 1, 0, 0, [])), (42, (.aastore, 43, 0, 0, 3, 5, 0, [])), (43, (.iinc 1 1, 46, 1, 0, 1, 0, 0, [])), (46, (.goto (-21), 49, 0, 0, 25, 0, 0, [])), (49, (.return_, 50, 0, 0, 0, 0, 0, []))]
set_option maxRecDepth 100000 in
theorem ok_RL_init : ∀ x ∈ k_RL_init, okE R_RL 1 b_RL_init x := fc e_RL_init_0 (fc e_RL_init_1 (fc e_RL_init_4 (fc e_RL_init_5 (fc e_RL_init_8 (fc e_RL_init_9 (fc e_RL_init_12 (fc e_RL_init_15 (fc e_RL_init_16 (fc e_RL_init_17 (fc e_RL_init_20 (fc e_RL_init_23 (fc e_RL_init_24 (fc e_RL_init_25 (fc e_RL_init_26 (fc e_RL_init_27 (fc e_RL_init_30 (fc e_RL_init_31 (fc e_RL_init_34 (fc e_RL_init_35 (fc e_RL_init_38 (fc e_RL_init_39 (fc e_RL_init_42 (fc e_RL_init_43 (fc e_RL_init_46 (fc e_RL_init_49 (fun _ h => absurd h List.not_mem_nil))))))))))))))))))))))))))
theorem rt_RL_init : ∀ x ∈ k_RL_init, okR 3 x.2.1 = true := by decide +kernel
theorem e_RL_become_0 : okE R_RL 0 b_RL_become (0, (.aload_n 0, 1, 0, 0, 0, 0, 0, [])) := ⟨by decide +kernel, rfl, rfl⟩
theorem e_RL_become_1 : okE R_RL 0 b_RL_become (1, (.getfield 12, 4, 0, 0, 4, 0, 2, [])) := ⟨by decide +kernel, rfl, ⟨_, _, _, rfl, by decide, wf_RL_12, rfl, rfl⟩⟩
theorem e_RL_become_4 : okE R_RL 0 b_RL_become (4, (.aload_n 1, 5, 0, 0, 1, 0, 0, [])) := ⟨by decide +kernel, rfl, rfl⟩
theorem e_RL_become_5 : okE R_RL 0 b_RL_become (5, (.iconst 0, 6, 0, 0, 0, 0, 0, [])) := ⟨by decide +kernel, rfl, rfl⟩
theorem e_RL_become_6 : okE R_RL 0 b_RL_become (6, (.aaload, 7, 0, 0, 0, 0, 0, [])) := ⟨by decide +kernel, rfl, trivial⟩
theorem e_RL_become_7 : okE R_RL 0 b_RL_become (7, (.invokevirtual 22, 10, 0, 0, 0, 0, 0, [])) := ⟨by decide +kernel, rfl, trivial⟩
theorem e_RL_become_10 : okE R_RL 0 b_RL_become (10, (.aload_n 0, 11, 0, 0, 0, 0, 0, [])) := ⟨by decide +kernel, rfl, rfl⟩
theorem e_RL_become_11 : okE R_RL 0 b_RL_become (11, (.iconst 0, 12, 0, 0, 0, 0, 0, [])) := ⟨by decide +kernel, rfl, rfl⟩
theorem e_RL_become_12 : okE R_RL 0 b_RL_become (12, (.putfield 26, 15, 0, 0, 4, 2, 0, [])) := ⟨by decide +kernel, rfl, ⟨⟨_, _, _, rfl, by decide, wf_RL_26, rfl, rfl⟩, ⟨_, _, _, rfl, Or.inl rfl, tk_RL.1 2 (by decide)⟩⟩⟩
theorem e_RL_become_15 : okE R_RL 0 b_RL_become (15, (.aload_n 0, 16, 0, 0, 0, 0, 0, [])) := ⟨by decide +kernel, rfl, rfl⟩
theorem e_RL_become_16 : okE R_RL 0 b_RL_become (16, (.iconst 0, 17, 0, 0, 0, 0, 0, [])) := ⟨by decide +kernel, rfl, rfl⟩
theorem e_RL_become_17 : okE R_RL 0 b_RL_become (17, (.putfield 30, 20, 0, 0, 4, 3, 0, [])) := ⟨by decide +kernel, rfl, ⟨⟨_, _, _, rfl, by decide, wf_RL_30, rfl, rfl⟩, ⟨_, _, _, rfl, Or.inl rfl, tk_RL.1 3 (by decide)⟩⟩⟩
theorem e_RL_become_20 : okE R_RL 0 b_RL_become (20, (.aload_n 0, 21, 0, 0, 0, 0, 0, [])) := ⟨by decide +kernel, rfl, rfl⟩
theorem e_RL_become_21 : okE R_RL 0 b_RL_become (21, (.aload_n 1, 22, 0, 0, 1, 0, 0, [])) := ⟨by decide +kernel, rfl, rfl⟩
theorem e_RL_become_22 : okE R_RL 0 b_RL_become (22, (.iload_n 2, 23, 0, 0, 2, 0, 0, [])) := ⟨by decide +kernel, rfl, rfl⟩
theorem e_RL_become_23 : okE R_RL 0 b_RL_become (23, (.iconst 0, 24, 0, 0, 0, 0, 0, [])) := ⟨by decide +kernel, rfl, rfl⟩
theorem e_RL_become_24 : okE R_RL 0 b_RL_become (24, (.invokevirtual 33, 27, 0, 0, 1, 0, 0, [])) := ⟨by decide +kernel, rfl, trivial⟩
theorem e_RL_become_27 : okE R_RL 0 b_RL_become (27, (.aload_n 0, 28, 0, 0, 0, 0, 0, [])) := ⟨by decide +kernel, rfl, rfl⟩
theorem e_RL_become_28 : okE R_RL 0 b_RL_become (28, (.aload_n 1, 29, 0, 0, 1, 0, 0, [])) := ⟨by decide +kernel, rfl, rfl⟩
theorem e_RL_become_29 : okE R_RL 0 b_RL_become (29, (.iload_n 2, 30, 0, 0, 2, 0, 0, [])) := ⟨by decide +kernel, rfl, rfl⟩
theorem e_RL_become_30 : okE R_RL 0 b_RL_become (30, (.iconst 1, 31, 1, 0, 0, 0, 0, [])) := ⟨by decide +kernel, rfl, rfl⟩
theorem e_RL_become_31 : okE R_RL 0 b_RL_become (31, (.invokevirtual 33, 34, 0, 0, 1, 0, 0, [])) := ⟨by decide +kernel, rfl, trivial⟩
theorem e_RL_become_34 : okE R_RL 0 b_RL_become (34, (.aload_n 0, 35, 0, 0, 0, 0, 0, [])) := ⟨by decide +kernel, rfl, rfl⟩
theorem e_RL_become_35 : okE R_RL 0 b_RL_become (35, (.iconst 1, 36, 1, 0, 0, 0, 0, [])) := ⟨by decide +kernel, rfl, rfl⟩
theorem e_RL_become_36 : okE R_RL 0 b_RL_become (36, (.putfield 37, 39, 0, 0, 4, 4, 3, [])) := ⟨by decide +kernel, rfl, ⟨⟨_, _, _, rfl, by decide, wf_RL_37, rfl, rfl⟩, ⟨_, _, _, rfl, Or.inl rfl, tk_RL.1 4 (by decide)⟩⟩⟩
theorem e_RL_become_39 : okE R_RL 0 b_RL_become (39, (.return_, 40, 0, 0, 0, 0, 0, [])) := ⟨by decide +kernel, rfl, trivial⟩
def k_RL_become : List (Nat × En) := [(0, (.aload_n 0, 1, 0, 0, 0, 0, 0, [])), (1, (.getfield 12, 4, 0, 0, 4, 0, 2, [])), (4, (.aload_n 1, 5, 0, 0, 1, 0, 0, [])), (5, (.iconst 0, 6, 0, 0, 0, 0, 0, [])), (6, (.aaload, 7, 0, 0, 0, 0, 0, [])), (7, (.invokevirtual 22, 10, 0, 0, 0, 0, 0, [])), (10, (.aload_n 0, 11, 0, 0, 0, 0, 0, [])), (11, (.iconst 0, 12, 0, 0, 0, 0, 0, [])), (12, (.putfield 26, 15, 0, 0, 4, 2, 0, [])), (15, (.aload_n 0, 16, 0, 0, 0, 0, 0, [])), (16, (.iconst 0, 17, 0, 0, 0, 0, 0, [])), (17, (.putfield 30, 20, 0, 0, 4, 3, 0, [])), (20, (.aload_n 0, 21, 0, 0, 0, 0, 0, [])), (21, (.aload_n 1, 22, 0, 0, 1, 0, 0, [])), (22, (.iload_n 2, 23, 0, 0, 2, 0, 0, [])), (23, (.iconst 0, 24, 0, 0, 0, 0, 0, [])), (24, (.invokevirtual 33, 27, 0, 0, 1, 0, 0, [])), (27, (.aload_n 0, 28, 0, 0, 0, 0, 0, [])), (28, (.aload_n 1, 29, 0, 0, 1, 0, 0, [])), (29, (.iload_n 2, 30, 0, 0, 2, 0, 0, [])), (30, (.iconst 1, 31, 1, 0, 0, 0, 0, [])), (31, (.invokevirtual 33, 34, 0, 0, 1, 0, 0, [])), (34, (.aload_n 0, 35, 0, 0, 0, 0, 0, [])), (35, (.iconst 1, 36, 1, 0, 0, 0, 0, [])), (36, (.putfield 37, 39, 0, 0, 4, 4, 3, [])), (39, (.return_, 40, 0, 0, 0, 0, 0, []))]
set_option maxRecDepth 100000 in
theorem ok_RL_become : ∀ x ∈ k_RL_become, okE R_RL 0 b_RL_become x := fc e_RL_become_0 (fc e_RL_become_1 (fc e_RL_become_4 (fc e_RL_become_5 (fc e_RL_become_6 (fc e_RL_become_7 (fc e_RL_become_10 (fc e_RL_become_11 (fc e_RL_become_12 (fc e_RL_become_15 (fc e_RL_become_16 (fc e_RL_become_17 (fc e_RL_become_20 (fc e_RL_become_21 (fc e_RL_become_22 (fc e_RL_become_23 (fc e_RL_become_24 (fc e_RL_become_27 (fc e_RL_become_28 (fc e_RL_become_29 (fc e_RL_become_30 (fc e_RL_become_31 (fc e_RL_become_34 (fc e_RL_become_35 (fc e_RL_become_36 (fc e_RL_become_39 (fun _ h => absurd h List.not_mem_nil))))))))))))))))))))))))))
theorem rt_RL_become : ∀ x ∈ k_RL_become, okR 3 x.2.1 = true := by decide +kernel
theorem e_RL_addToBody_0 : okE R_RL 0 b_RL_addToBody (0, (.iconst 1, 1, 1, 0, 0, 0, 0, [])) := ⟨by decide +kernel, rfl, rfl⟩
theorem e_RL_addToBody_1 : okE R_RL 0 b_RL_addToBody (1, (.istore 4, 3, 0, 0, 4, 0, 0, [])) := ⟨by decide +kernel, rfl, rfl⟩
theorem e_RL_addToBody_3 : okE R_RL 0 b_RL_addToBody (3, (.iload 4, 5, 0, 0, 4, 0, 0, [])) := ⟨by decide +kernel, rfl, rfl⟩
theorem e_RL_addToBody_5 : okE R_RL 0 b_RL_addToBody (5, (.iload_n 2, 6, 0, 0, 2, 0, 0, [])) := ⟨by decide +kernel, rfl, rfl⟩
theorem e_RL_addToBody_6 : okE R_RL 0 b_RL_addToBody (6, (.if_icmp .ge 72, 9, 0, 0, 78, 0, 0, [])) := ⟨by decide +kernel, rfl, rfl⟩
theorem e_RL_addToBody_9 : okE R_RL 0 b_RL_addToBody (9, (.aload_n 1, 10, 0, 0, 1, 0, 0, [])) := ⟨by decide +kernel, rfl, rfl⟩
theorem e_RL_addToBody_10 : okE R_RL 0 b_RL_addToBody (10, (.iload 4, 12, 0, 0, 4, 0, 0, [])) := ⟨by decide +kernel, rfl, rfl⟩
theorem e_RL_addToBody_12 : okE R_RL 0 b_RL_addToBody (12, (.aaload, 13, 0, 0, 0, 0, 0, [])) := ⟨by decide +kernel, rfl, trivial⟩
theorem e_RL_addToBody_13 : okE R_RL 0 b_RL_addToBody (13, (.getfield 41, 16, 0, 0, 5, 3, 3, [])) := ⟨by decide +kernel, rfl, ⟨_, _, _, rfl, by decide, wf_RL_41, rfl, rfl⟩⟩
theorem e_RL_addToBody_16 : okE R_RL 0 b_RL_addToBody (16, (.iload_n 3, 17, 0, 0, 3, 0, 0, [])) := ⟨by decide +kernel, rfl, rfl⟩
theorem e_RL_addToBody_17 : okE R_RL 0 b_RL_addToBody (17, (.if_icmp .ne 55, 20, 0, 0, 72, 0, 0, [])) := ⟨by decide +kernel, rfl, rfl⟩
theorem e_RL_addToBody_20 : okE R_RL 0 b_RL_addToBody (20, (.aload_n 0, 21, 0, 0, 0, 0, 0, [])) := ⟨by decide +kernel, rfl, rfl⟩
theorem e_RL_addToBody_21 : okE R_RL 0 b_RL_addToBody (21, (.getfield 26, 24, 0, 0, 4, 2, 0, [])) := ⟨by decide +kernel, rfl, ⟨_, _, _, rfl, by decide, wf_RL_26, rfl, rfl⟩⟩
theorem e_RL_addToBody_24 : okE R_RL 0 b_RL_addToBody (24, (.iconst 3, 25, 3, 0, 0, 0, 0, [])) := ⟨by decide +kernel, rfl, rfl⟩
theorem e_RL_addToBody_25 : okE R_RL 0 b_RL_addToBody (25, (.if_icmp .ge 47, 28, 0, 0, 72, 0, 0, [])) := ⟨by decide +kernel, rfl, rfl⟩
theorem e_RL_addToBody_28 : okE R_RL 0 b_RL_addToBody (28, (.aload_n 0, 29, 0, 0, 0, 0, 0, [])) := ⟨by decide +kernel, rfl, rfl⟩
theorem e_RL_addToBody_29 : okE R_RL 0 b_RL_addToBody (29, (.getfield 18, 32, 0, 0, 4, 1, 2, [])) := ⟨by decide +kernel, rfl, ⟨_, _, _, rfl, by decide, wf_RL_18, rfl, rfl⟩⟩
theorem e_RL_addToBody_32 : okE R_RL 0 b_RL_addToBody (32, (.aload_n 0, 33, 0, 0, 0, 0, 0, [])) := ⟨by decide +kernel, rfl, rfl⟩
theorem e_RL_addToBody_33 : okE R_RL 0 b_RL_addToBody (33, (.getfield 26, 36, 0, 0, 4, 2, 0, [])) := ⟨by decide +kernel, rfl, ⟨_, _, _, rfl, by decide, wf_RL_26, rfl, rfl⟩⟩
theorem e_RL_addToBody_36 : okE R_RL 0 b_RL_addToBody (36, (.aaload, 37, 0, 0, 0, 0, 0, [])) := ⟨by decide +kernel, rfl, trivial⟩
theorem e_RL_addToBody_37 : okE R_RL 0 b_RL_addToBody (37, (.aload_n 1, 38, 0, 0, 1, 0, 0, [])) := ⟨by decide +kernel, rfl, rfl⟩
theorem e_RL_addToBody_38 : okE R_RL 0 b_RL_addToBody (38, (.iload 4, 40, 0, 0, 4, 0, 0, [])) := ⟨by decide +kernel, rfl, rfl⟩
theorem e_RL_addToBody_40 : okE R_RL 0 b_RL_addToBody (40, (.aaload, 41, 0, 0, 0, 0, 0, [])) := ⟨by decide +kernel, rfl, trivial⟩
theorem e_RL_addToBody_41 : okE R_RL 0 b_RL_addToBody (41, (.invokevirtual 22, 44, 0, 0, 0, 0, 0, [])) := ⟨by decide +kernel, rfl, trivial⟩
theorem e_RL_addToBody_44 : okE R_RL 0 b_RL_addToBody (44, (.aload_n 0, 45, 0, 0, 0, 0, 0, [])) := ⟨by decide +kernel, rfl, rfl⟩
theorem e_RL_addToBody_45 : okE R_RL 0 b_RL_addToBody (45, (.dup, 46, 0, 0, 0, 0, 0, [])) := ⟨by decide +kernel, rfl, trivial⟩
theorem e_RL_addToBody_46 : okE R_RL 0 b_RL_addToBody (46, (.getfield 26, 49, 0, 0, 4, 2, 0, [])) := ⟨by decide +kernel, rfl, ⟨_, _, _, rfl, by decide, wf_RL_26, rfl, rfl⟩⟩
theorem e_RL_addToBody_49 : okE R_RL 0 b_RL_addToBody (49, (.iconst 1, 50, 1, 0, 0, 0, 0, [])) := ⟨by decide +kernel, rfl, rfl⟩
theorem e_RL_addToBody_50 : okE R_RL 0 b_RL_addToBody (50, (.iadd, 51, 0, 0, 0, 0, 0, [])) := ⟨by decide +kernel, rfl, trivial⟩
theorem e_RL_addToBody_51 : okE R_RL 0 b_RL_addToBody (51, (.putfield 26, 54, 0, 0, 4, 2, 0, [])) := ⟨by decide +kernel, rfl, ⟨⟨_, _, _, rfl, by decide, wf_RL_26, rfl, rfl⟩, ⟨_, _, _, rfl, Or.inl rfl, tk_RL.1 2 (by decide)⟩⟩⟩
theorem e_RL_addToBody_54 : okE R_RL 0 b_RL_addToBody (54, (.aload_n 0, 55, 0, 0, 0, 0, 0, [])) := ⟨by decide +kernel, rfl, rfl⟩
theorem e_RL_addToBody_55 : okE R_RL 0 b_RL_addToBody (55, (.dup, 56, 0, 0, 0, 0, 0, [])) := ⟨by decide +kernel, rfl, trivial⟩
theorem e_RL_addToBody_56 : okE R_RL 0 b_RL_addToBody (56, (.getfield 30, 59, 0, 0, 4, 3, 0, [])) := ⟨by decide +kernel, rfl, ⟨_, _, _, rfl, by decide, wf_RL_30, rfl, rfl⟩⟩
theorem e_RL_addToBody_59 : okE R_RL 0 b_RL_addToBody (59, (.iconst 1, 60, 1, 0, 0, 0, 0, [])) := ⟨by decide +kernel, rfl, rfl⟩
theorem e_RL_addToBody_60 : okE R_RL 0 b_RL_addToBody (60, (.aload_n 1, 61, 0, 0, 1, 0, 0, [])) := ⟨by decide +kernel, rfl, rfl⟩
theorem e_RL_addToBody_61 : okE R_RL 0 b_RL_addToBody (61, (.iload 4, 63, 0, 0, 4, 0, 0, [])) := ⟨by decide +kernel, rfl, rfl⟩
theorem e_RL_addToBody_63 : okE R_RL 0 b_RL_addToBody (63, (.aaload, 64, 0, 0, 0, 0, 0, [])) := ⟨by decide +kernel, rfl, trivial⟩
theorem e_RL_addToBody_64 : okE R_RL 0 b_RL_addToBody (64, (.getfield 44, 67, 0, 0, 5, 0, 0, [])) := ⟨by decide +kernel, rfl, ⟨_, _, _, rfl, by decide, wf_RL_44, rfl, rfl⟩⟩
theorem e_RL_addToBody_67 : okE R_RL 0 b_RL_addToBody (67, (.ishl, 68, 0, 0, 0, 0, 0, [])) := ⟨by decide +kernel, rfl, trivial⟩
theorem e_RL_addToBody_68 : okE R_RL 0 b_RL_addToBody (68, (.ior, 69, 0, 0, 0, 0, 0, [])) := ⟨by decide +kernel, rfl, trivial⟩
theorem e_RL_addToBody_69 : okE R_RL 0 b_RL_addToBody (69, (.putfield 30, 72, 0, 0, 4, 3, 0, [])) := ⟨by decide +kernel, rfl, ⟨⟨_, _, _, rfl, by decide, wf_RL_30, rfl, rfl⟩, ⟨_, _, _, rfl, Or.inl rfl, tk_RL.1 3 (by decide)⟩⟩⟩
theorem e_RL_addToBody_72 : okE R_RL 0 b_RL_addToBody (72, (.iinc 4 1, 75, 1, 0, 4, 0, 0, [])) := ⟨by decide +kernel, rfl, ⟨rfl, rfl⟩⟩
theorem e_RL_addToBody_75 : okE R_RL 0 b_RL_addToBody (75, (.goto (-72), 78, 0, 0, 3, 0, 0, [])) := ⟨by decide +kernel, rfl, rfl⟩
theorem e_RL_addToBody_78 : okE R_RL 0 b_RL_addToBody (78, (.return_, 79, 0, 0, 0, 0, 0, [])) := ⟨by decide +kernel, rfl, trivial⟩
def k_RL_addToBody : List (Nat × En) := [(0, (.iconst 1, 1, 1, 0, 0, 0, 0, [])), (1, (.istore 4, 3, 0, 0, 4, 0, 0, [])), (3, (.iload 4, 5, 0, 0, 4, 0, 0, [])), (5, (.iload_n 2, 6, 0, 0, 2, 0, 0, [])), (6, (.if_icmp .ge 72, 9, 0, 0, 78, 0, 0, [])), (9, (.aload_n 1, 10, 0, 0, 1, 0, 0, [])), (10, (.iload 4, 12, 0, 0, 4, 0, 0, [])), (12, (.aaload, 13, 0, 0, 0, 0, 0, [])), (13, (.getfield 41, 16, 0, 0, 5, 3, 3, [])), (16, (.iload_n 3, 17, 0, 0, 3, 0, 0, [])), (17, (.if_icmp .ne 55, 20, 0, 0, 72, 0, 0, [])), (20, (.aload_n 0, 21, 0, 0, 0, 0, 0, [])), (21, (.getfield 26, 24, 0, 0, 4, 2, 0, [])), (24, (.iconst 3, 25, 3, 0, 0, 0, 0, [])), (25, (.if_icmp .ge 47, 28, 0, 0, 72, 0, 0, [])), (28, (.aload_n 0, 29, 0, 0, 0, 0, 0, [])), (29, (.getfield 18, 32, 0, 0, 4, 1, 2, [])), (32, (.aload_n 0, 33, 0, 0, 0, 0, 0, [])), (33, (.getfield 26, 36, 0, 0, 4, 2, 0, [])), (36, (.aaload, 37, 0, 0, 0, 0, 0, [])), (37, (.aload_n 1, 38, 0, 0, 1, 0, 0, [])), (38, (.iload 4, 40, 0, 0, 4, 0, 0, [])), (40, (.aaload, 41, 0, 0, 0, 0, 0, [])), (41, (.invokevirtual 22, 44, 0, 0, 0, 0, 0, [])), (44, (.aload_n 0, 45, 0, 0, 0, 0, 0, [])), (45, (.dup, 46, 0, 0, 0, 0, 0, [])), (46, (.getfield 26, 49, 0, 0, 4, 2, 0, [])), (49, (.iconst 1, 50, 1, 0, 0, 0, 0, [])), (50, (.iadd, 51, 0, 0, 0, 0, 0, [])), (51, (.putfield 26, 54, 0, 0, 4, 2, 0, [])), (54, (.aload_n 0, 55, 0, 0, 0, 0, 0, [])), (55, (.dup, 56, 0, 0, 0, 0, 0, [])), (56, (.getfield 30, 59, 0, 0, 4, 3, 0, [])), (59, (.iconst 1, 60, 1, 0, 0, 0, 0, [])), (60, (.aload_n 1, 61, 0, 0, 1, 0, 0, [])), (61, (.iload 4, 63, 0, 0, 4, 0, 0, [])), (63, (.aaload, 64, 0, 0, 0, 0, 0, [])), (64, (.getfield 44, 67, 0, 0, 5, 0, 0, [])), (67, (.ishl, 68, 0, 0, 0, 0, 0, [])), (68, (.ior, 69, 0, 0, 0, 0, 0, [])), (69, (.putfield 30, 72, 0, 0, 4, 3, 0, [])), (72, (.iinc 4 1, 75, 1, 0, 4, 0, 0, [])), (75, (.goto (-72), 78, 0, 0, 3, 0, 0, [])), (78, (.return_, 79, 0, 0, 0, 0, 0, []))]
set_option maxRecDepth 100000 in
theorem ok_RL_addToBody : ∀ x ∈ k_RL_addToBody, okE R_RL 0 b_RL_addToBody x := fc e_RL_addToBody_0 (fc e_RL_addToBody_1 (fc e_RL_addToBody_3 (fc e_RL_addToBody_5 (fc e_RL_addToBody_6 (fc e_RL_addToBody_9 (fc e_RL_addToBody_10 (fc e_RL_addToBody_12 (fc e_RL_addToBody_13 (fc e_RL_addToBody_16 (fc e_RL_addToBody_17 (fc e_RL_addToBody_20 (fc e_RL_addToBody_21 (fc e_RL_addToBody_24 (fc e_RL_addToBody_25 (fc e_RL_addToBody_28 (fc e_RL_addToBody_29 (fc e_RL_addToBody_32 (fc e_RL_addToBody_33 (fc e_RL_addToBody_36 (fc e_RL_addToBody_37 (fc e_RL_addToBody_38 (fc e_RL_addToBody_40 (fc e_RL_addToBody_41 (fc e_RL_addToBody_44 (fc e_RL_addToBody_45 (fc e_RL_addToBody_46 (fc e_RL_addToBody_49 (fc e_RL_addToBody_50 (fc e_RL_addToBody_51 (fc e_RL_addToBody_54 (fc e_RL_addToBody_55 (fc e_RL_addToBody_56 (fc e_RL_addToBody_59 (fc e_RL_addToBody_60 (fc e_RL_addToBody_61 (fc e_RL_addToBody_63 (fc e_RL_addToBody_64 (fc e_RL_addToBody_67 (fc e_RL_addToBody_68 (fc e_RL_addToBody_69 (fc e_RL_addToBody_72 (fc e_RL_addToBody_75 (fc e_RL_addToBody_78 (fun _ h => absurd h List.not_mem_nil))))))))))))))))))))))))))))))))))))))))))))
theorem rt_RL_addToBody : ∀ x ∈ k_RL_addToBody, okR 3 x.2.1 = true := by decide +kernel
theorem e_PG_init_0 : okE R_PG 1 b_PG_init (0, (.aload_n 0, 1, 0, 0, 0, 0, 0, [])) := ⟨by decide +kernel, rfl, rfl⟩
theorem e_PG_init_1 : okE R_PG 1 b_PG_init (1, (.invokespecial 3, 4, 0, 0, 0, 0, 0, [])) := ⟨by decide +kernel, rfl, trivial⟩
theorem e_PG_init_4 : okE R_PG 1 b_PG_init (4, (.aload_n 0, 5, 0, 0, 0, 0, 0, [])) := ⟨by decide +kernel, rfl, rfl⟩
theorem e_PG_init_5 : okE R_PG 1 b_PG_init (5, (.bipush 12, 7, 12, 0, 0, 0, 0, [])) := ⟨by decide +kernel, rfl, rfl⟩
theorem e_PG_init_7 : okE R_PG 1 b_PG_init (7, (.newarray .int, 9, 0, 0, 0, 0, 0, [])) := ⟨by decide +kernel, rfl, Or.inl ⟨rfl, rfl, wa_int⟩⟩
theorem e_PG_init_9 : okE R_PG 1 b_PG_init (9, (.putfield 9, 12, 0, 0, 1, 0, 2, [])) := ⟨by decide +kernel, rfl, ⟨⟨_, _, _, rfl, by decide, wf_PG_9, rfl, rfl⟩, ⟨_, _, _, rfl, Or.inr ⟨rfl, rfl, rfl⟩, ⟨_, tk_PG.1 0 (by decide), fun a => ⟨rfl, rfl⟩⟩⟩⟩⟩
theorem e_PG_init_12 : okE R_PG 1 b_PG_init (12, (.aload_n 0, 13, 0, 0, 0, 0, 0, [])) := ⟨by decide +kernel, rfl, rfl⟩
theorem e_PG_init_13 : okE R_PG 1 b_PG_init (13, (.bipush 12, 15, 12, 0, 0, 0, 0, [])) := ⟨by decide +kernel, rfl, rfl⟩
theorem e_PG_init_15 : okE R_PG 1 b_PG_init (15, (.newarray .int, 17, 0, 0, 0, 0, 0, [])) := ⟨by decide +kernel, rfl, Or.inl ⟨rfl, rfl, wa_int⟩⟩
theorem e_PG_init_17 : okE R_PG 1 b_PG_init (17, (.putfield 15, 20, 0, 0, 1, 1, 2, [])) := ⟨by decide +kernel, rfl, ⟨⟨_, _, _, rfl, by decide, wf_PG_15, rfl, rfl⟩, ⟨_, _, _, rfl, Or.inr ⟨rfl, rfl, rfl⟩, ⟨_, tk_PG.1 1 (by decide), fun a => ⟨rfl, rfl⟩⟩⟩⟩⟩
theorem e_PG_init_20 : okE R_PG 1 b_PG_init (20, (.aload_n 0, 21, 0, 0, 0, 0, 0, [])) := ⟨by decide +kernel, rfl, rfl⟩
theorem e_PG_init_21 : okE R_PG 1 b_PG_init (21, (.bipush 12, 23, 12, 0, 0, 0, 0, [])) := ⟨by decide +kernel, rfl, rfl⟩
theorem e_PG_init_23 : okE R_PG 1 b_PG_init (23, (.newarray .int, 25, 0, 0, 0, 0, 0, [])) := ⟨by decide +kernel, rfl, Or.inl ⟨rfl, rfl, wa_int⟩⟩
theorem e_PG_init_25 : okE R_PG 1 b_PG_init (25, (.putfield 18, 28, 0, 0, 1, 2, 2, [])) := ⟨by decide +kernel, rfl, ⟨⟨_, _, _, rfl, by decide, wf_PG_18, rfl, rfl⟩, ⟨_, _, _, rfl, Or.inr ⟨rfl, rfl, rfl⟩, ⟨_, tk_PG.1 2 (by decide), fun a => ⟨rfl, rfl⟩⟩⟩⟩⟩
theorem e_PG_init_28 : okE R_PG 1 b_PG_init (28, (.aload_n 0, 29, 0, 0, 0, 0, 0, [])) := ⟨by decide +kernel, rfl, rfl⟩
theorem e_PG_init_29 : okE R_PG 1 b_PG_init (29, (.getfield 9, 32, 0, 0, 1, 0, 2, [])) := ⟨by decide +kernel, rfl, ⟨_, _, _, rfl, by decide, wf_PG_9, rfl, rfl⟩⟩
theorem e_PG_init_32 : okE R_PG 1 b_PG_init (32, (.iconst (-1), 33, (-1), 0, 0, 0, 0, [])) := ⟨by decide +kernel, rfl, rfl⟩
theorem e_PG_init_33 : okE R_PG 1 b_PG_init (33, (.invokestatic 21, 36, 0, 0, 1, 0, 0, [])) := ⟨by decide +kernel, rfl, trivial⟩
theorem e_PG_init_36 : okE R_PG 1 b_PG_init (36, (.return_, 37, 0, 0, 0, 0, 0, [])) := ⟨by decide +kernel, rfl, trivial⟩
def k_PG_init : List (Nat × En) := [(0, (.aload_n 0, 1, 0, 0, 0, 0, 0, [])), (1, (.invokespecial 3, 4, 0, 0, 0, 0, 0, [])), (4, (.aload_n 0, 5, 0, 0, 0, 0, 0, [])), (5, (.bipush 12, 7, 12, 0, 0, 0, 0, [])), (7, (.newarray .int, 9, 0, 0, 0, 0, 0, [])), (9, (.putfield 9, 12, 0, 0, 1, 0, 2, [])), (12, (.aload_n 0, 13, 0, 0, 0, 0, 0, [])), (13, (.bipush 12, 15, 12, 0, 0, 0, 0, [])), (15, (.newarray .int, 17, 0, 0, 0, 0, 0, [])), (17, (.putfield 15, 20, 0, 0, 1, 1, 2, [])), (20, (.aload_n 0, 21, 0, 0, 0, 0, 0, [])), (21, (.bipush 12, 23, 12, 0, 0, 0, 0, [])), (23, (.newarray .int, 25, 0, 0, 0, 0, 0, [])), (25, (.putfield 18, 28, 0, 0, 1, 2, 2, [])), (28, (.aload_n 0, 29, 0, 0, 0, 0, 0, [])), (29, (.getfield 9, 32, 0, 0, 1, 0, 2, [])), (32, (.iconst (-1), 33, (-1), 0, 0, 0, 0, [])), (33, (.invokestatic 21, 36, 0, 0, 1, 0, 0, [])), (36, (.return_, 37, 0, 0, 0, 0, 0, []))]
set_option maxRecDepth 100000 in
theorem ok_PG_init : ∀ x ∈ k_PG_init, okE R_PG 1 b_PG_init x := fc e_PG_init_0 (fc e_PG_init_1 (fc e_PG_init_4 (fc e_PG_init_5 (fc e_PG_init_7 (fc e_PG_init_9 (fc e_PG_init_12 (fc e_PG_init_13 (fc e_PG_init_15 (fc e_PG_init_17 (fc e_PG_init_20 (fc e_PG_init_21 (fc e_PG_init_23 (fc e_PG_init_25 (fc e_PG_init_28 (fc e_PG_init_29 (fc e_PG_init_32 (fc e_PG_init_33 (fc e_PG_init_36 (fun _ h => absurd h List.not_mem_nil)))))))))))))))))))
theorem rt_PG_init : ∀ x ∈ k_PG_init, okR 3 x.2.1 = true := by decide +kernel
theorem e_PG_write_0 : okE R_PG 0 b_PG_write (0, (.aload_n 0, 1, 0, 0, 0, 0, 0, [])) := ⟨by decide +kernel, rfl, rfl⟩
theorem e_PG_write_1 : okE R_PG 0 b_PG_write (1, (.getfield 9, 4, 0, 0, 1, 0, 2, [])) := ⟨by decide +kernel, rfl, ⟨_, _, _, rfl, by decide, wf_PG_9, rfl, rfl⟩⟩
theorem e_PG_write_4 : okE R_PG 0 b_PG_write (4, (.iload_n 1, 5, 0, 0, 1, 0, 0, [])) := ⟨by decide +kernel, rfl, rfl⟩
theorem e_PG_write_5 : okE R_PG 0 b_PG_write (5, (.iload_n 2, 6, 0, 0, 2, 0, 0, [])) := ⟨by decide +kernel, rfl, rfl⟩
theorem e_PG_write_6 : okE R_PG 0 b_PG_write (6, (.iastore, 7, 0, 0, 0, 0, 0, [])) := ⟨by decide +kernel, rfl, trivial⟩
theorem e_PG_write_7 : okE R_PG 0 b_PG_write (7, (.aload_n 0, 8, 0, 0, 0, 0, 0, [])) := ⟨by decide +kernel, rfl, rfl⟩
theorem e_PG_write_8 : okE R_PG 0 b_PG_write (8, (.getfield 15, 11, 0, 0, 1, 1, 2, [])) := ⟨by decide +kernel, rfl, ⟨_, _, _, rfl, by decide, wf_PG_15, rfl, rfl⟩⟩
theorem e_PG_write_11 : okE R_PG 0 b_PG_write (11, (.iload_n 1, 12, 0, 0, 1, 0, 0, [])) := ⟨by decide +kernel, rfl, rfl⟩
theorem e_PG_write_12 : okE R_PG 0 b_PG_write (12, (.iload_n 3, 13, 0, 0, 3, 0, 0, [])) := ⟨by decide +kernel, rfl, rfl⟩
theorem e_PG_write_13 : okE R_PG 0 b_PG_write (13, (.iastore, 14, 0, 0, 0, 0, 0, [])) := ⟨by decide +kernel, rfl, trivial⟩
theorem e_PG_write_14 : okE R_PG 0 b_PG_write (14, (.aload_n 0, 15, 0, 0, 0, 0, 0, [])) := ⟨by decide +kernel, rfl, rfl⟩
theorem e_PG_write_15 : okE R_PG 0 b_PG_write (15, (.getfield 18, 18, 0, 0, 1, 2, 2, [])) := ⟨by decide +kernel, rfl, ⟨_, _, _, rfl, by decide, wf_PG_18, rfl, rfl⟩⟩
theorem e_PG_write_18 : okE R_PG 0 b_PG_write (18, (.iload_n 1, 19, 0, 0, 1, 0, 0, [])) := ⟨by decide +kernel, rfl, rfl⟩
theorem e_PG_write_19 : okE R_PG 0 b_PG_write (19, (.iload 4, 21, 0, 0, 4, 0, 0, [])) := ⟨by decide +kernel, rfl, rfl⟩
theorem e_PG_write_21 : okE R_PG 0 b_PG_write (21, (.iastore, 22, 0, 0, 0, 0, 0, [])) := ⟨by decide +kernel, rfl, trivial⟩
theorem e_PG_write_22 : okE R_PG 0 b_PG_write (22, (.return_, 23, 0, 0, 0, 0, 0, [])) := ⟨by decide +kernel, rfl, trivial⟩
def k_PG_write : List (Nat × En) := [(0, (.aload_n 0, 1, 0, 0, 0, 0, 0, [])), (1, (.getfield 9, 4, 0, 0, 1, 0, 2, [])), (4, (.iload_n 1, 5, 0, 0, 1, 0, 0, [])), (5, (.iload_n 2, 6, 0, 0, 2, 0, 0, [])), (6, (.iastore, 7, 0, 0, 0, 0, 0, [])), (7, (.aload_n 0, 8, 0, 0, 0, 0, 0, [])), (8, (.getfield 15, 11, 0, 0, 1, 1, 2, [])), (11, (.iload_n 1, 12, 0, 0, 1, 0, 0, [])), (12, (.iload_n 3, 13, 0, 0, 3, 0, 0, [])), (13, (.iastore, 14, 0, 0, 0, 0, 0, [])), (14, (.aload_n 0, 15, 0, 0, 0, 0, 0, [])), (15, (.getfield 18, 18, 0, 0, 1, 2, 2, [])), (18, (.iload_n 1, 19, 0, 0, 1, 0, 0, [])), (19, (.iload 4, 21, 0, 0, 4, 0, 0, [])), (21, (.iastore, 22, 0, 0, 0, 0, 0, [])), (22, (.return_, 23, 0, 0, 0, 0, 0, []))]
set_option maxRecDepth 100000 in
theorem ok_PG_write : ∀ x ∈ k_PG_write, okE R_PG 0 b_PG_write x := fc e_PG_write_0 (fc e_PG_write_1 (fc e_PG_write_4 (fc e_PG_write_5 (fc e_PG_write_6 (fc e_PG_write_7 (fc e_PG_write_8 (fc e_PG_write_11 (fc e_PG_write_12 (fc e_PG_write_13 (fc e_PG_write_14 (fc e_PG_write_15 (fc e_PG_write_18 (fc e_PG_write_19 (fc e_PG_write_21 (fc e_PG_write_22 (fun _ h => absurd h List.not_mem_nil))))))))))))))))
theorem rt_PG_write : ∀ x ∈ k_PG_write, okR 3 x.2.1 = true := by decide +kernel
theorem e_PG_factsOf_0 : okE R_PG 0 b_PG_factsOf (0, (.lconst 0, 1, 0, 0, 0, 0, 0, [])) := ⟨by decide +kernel, rfl, rfl⟩
theorem e_PG_factsOf_1 : okE R_PG 0 b_PG_factsOf (1, (.lstore_n 2, 2, 0, 0, 2, 0, 0, [])) := ⟨by decide +kernel, rfl, rfl⟩
theorem e_PG_factsOf_2 : okE R_PG 0 b_PG_factsOf (2, (.iconst 0, 3, 0, 0, 0, 0, 0, [])) := ⟨by decide +kernel, rfl, rfl⟩
theorem e_PG_factsOf_3 : okE R_PG 0 b_PG_factsOf (3, (.istore 4, 5, 0, 0, 4, 0, 0, [])) := ⟨by decide +kernel, rfl, rfl⟩
theorem e_PG_factsOf_5 : okE R_PG 0 b_PG_factsOf (5, (.iload 4, 7, 0, 0, 4, 0, 0, [])) := ⟨by decide +kernel, rfl, rfl⟩
theorem e_PG_factsOf_7 : okE R_PG 0 b_PG_factsOf (7, (.bipush 12, 9, 12, 0, 0, 0, 0, [])) := ⟨by decide +kernel, rfl, rfl⟩
theorem e_PG_factsOf_9 : okE R_PG 0 b_PG_factsOf (9, (.if_icmp .ge 42, 12, 0, 0, 51, 0, 0, [])) := ⟨by decide +kernel, rfl, rfl⟩
theorem e_PG_factsOf_12 : okE R_PG 0 b_PG_factsOf (12, (.aload_n 0, 13, 0, 0, 0, 0, 0, [])) := ⟨by decide +kernel, rfl, rfl⟩
theorem e_PG_factsOf_13 : okE R_PG 0 b_PG_factsOf (13, (.getfield 9, 16, 0, 0, 1, 0, 2, [])) := ⟨by decide +kernel, rfl, ⟨_, _, _, rfl, by decide, wf_PG_9, rfl, rfl⟩⟩
theorem e_PG_factsOf_16 : okE R_PG 0 b_PG_factsOf (16, (.iload 4, 18, 0, 0, 4, 0, 0, [])) := ⟨by decide +kernel, rfl, rfl⟩
theorem e_PG_factsOf_18 : okE R_PG 0 b_PG_factsOf (18, (.iaload, 19, 0, 0, 0, 0, 0, [])) := ⟨by decide +kernel, rfl, trivial⟩
theorem e_PG_factsOf_19 : okE R_PG 0 b_PG_factsOf (19, (.iload_n 1, 20, 0, 0, 1, 0, 0, [])) := ⟨by decide +kernel, rfl, rfl⟩
theorem e_PG_factsOf_20 : okE R_PG 0 b_PG_factsOf (20, (.if_icmp .ne 25, 23, 0, 0, 45, 0, 0, [])) := ⟨by decide +kernel, rfl, rfl⟩
theorem e_PG_factsOf_23 : okE R_PG 0 b_PG_factsOf (23, (.lload_n 2, 24, 0, 0, 2, 0, 0, [])) := ⟨by decide +kernel, rfl, rfl⟩
theorem e_PG_factsOf_24 : okE R_PG 0 b_PG_factsOf (24, (.lconst 1, 25, 0, 1, 0, 0, 0, [])) := ⟨by decide +kernel, rfl, rfl⟩
theorem e_PG_factsOf_25 : okE R_PG 0 b_PG_factsOf (25, (.aload_n 0, 26, 0, 0, 0, 0, 0, [])) := ⟨by decide +kernel, rfl, rfl⟩
theorem e_PG_factsOf_26 : okE R_PG 0 b_PG_factsOf (26, (.getfield 15, 29, 0, 0, 1, 1, 2, [])) := ⟨by decide +kernel, rfl, ⟨_, _, _, rfl, by decide, wf_PG_15, rfl, rfl⟩⟩
theorem e_PG_factsOf_29 : okE R_PG 0 b_PG_factsOf (29, (.iload 4, 31, 0, 0, 4, 0, 0, [])) := ⟨by decide +kernel, rfl, rfl⟩
theorem e_PG_factsOf_31 : okE R_PG 0 b_PG_factsOf (31, (.iaload, 32, 0, 0, 0, 0, 0, [])) := ⟨by decide +kernel, rfl, trivial⟩
theorem e_PG_factsOf_32 : okE R_PG 0 b_PG_factsOf (32, (.aload_n 0, 33, 0, 0, 0, 0, 0, [])) := ⟨by decide +kernel, rfl, rfl⟩
theorem e_PG_factsOf_33 : okE R_PG 0 b_PG_factsOf (33, (.getfield 18, 36, 0, 0, 1, 2, 2, [])) := ⟨by decide +kernel, rfl, ⟨_, _, _, rfl, by decide, wf_PG_18, rfl, rfl⟩⟩
theorem e_PG_factsOf_36 : okE R_PG 0 b_PG_factsOf (36, (.iload 4, 38, 0, 0, 4, 0, 0, [])) := ⟨by decide +kernel, rfl, rfl⟩
theorem e_PG_factsOf_38 : okE R_PG 0 b_PG_factsOf (38, (.iaload, 39, 0, 0, 0, 0, 0, [])) := ⟨by decide +kernel, rfl, trivial⟩
theorem e_PG_factsOf_39 : okE R_PG 0 b_PG_factsOf (39, (.invokestatic 27, 42, 0, 0, 0, 0, 0, [])) := ⟨by decide +kernel, rfl, trivial⟩
theorem e_PG_factsOf_42 : okE R_PG 0 b_PG_factsOf (42, (.lshl, 43, 0, 0, 0, 0, 0, [])) := ⟨by decide +kernel, rfl, trivial⟩
theorem e_PG_factsOf_43 : okE R_PG 0 b_PG_factsOf (43, (.lor, 44, 0, 0, 0, 0, 0, [])) := ⟨by decide +kernel, rfl, trivial⟩
theorem e_PG_factsOf_44 : okE R_PG 0 b_PG_factsOf (44, (.lstore_n 2, 45, 0, 0, 2, 0, 0, [])) := ⟨by decide +kernel, rfl, rfl⟩
theorem e_PG_factsOf_45 : okE R_PG 0 b_PG_factsOf (45, (.iinc 4 1, 48, 1, 0, 4, 0, 0, [])) := ⟨by decide +kernel, rfl, ⟨rfl, rfl⟩⟩
theorem e_PG_factsOf_48 : okE R_PG 0 b_PG_factsOf (48, (.goto (-43), 51, 0, 0, 5, 0, 0, [])) := ⟨by decide +kernel, rfl, rfl⟩
theorem e_PG_factsOf_51 : okE R_PG 0 b_PG_factsOf (51, (.lload_n 2, 52, 0, 0, 2, 0, 0, [])) := ⟨by decide +kernel, rfl, rfl⟩
theorem e_PG_factsOf_52 : okE R_PG 0 b_PG_factsOf (52, (.lreturn, 53, 0, 0, 0, 0, 0, [])) := ⟨by decide +kernel, rfl, trivial⟩
def k_PG_factsOf : List (Nat × En) := [(0, (.lconst 0, 1, 0, 0, 0, 0, 0, [])), (1, (.lstore_n 2, 2, 0, 0, 2, 0, 0, [])), (2, (.iconst 0, 3, 0, 0, 0, 0, 0, [])), (3, (.istore 4, 5, 0, 0, 4, 0, 0, [])), (5, (.iload 4, 7, 0, 0, 4, 0, 0, [])), (7, (.bipush 12, 9, 12, 0, 0, 0, 0, [])), (9, (.if_icmp .ge 42, 12, 0, 0, 51, 0, 0, [])), (12, (.aload_n 0, 13, 0, 0, 0, 0, 0, [])), (13, (.getfield 9, 16, 0, 0, 1, 0, 2, [])), (16, (.iload 4, 18, 0, 0, 4, 0, 0, [])), (18, (.iaload, 19, 0, 0, 0, 0, 0, [])), (19, (.iload_n 1, 20, 0, 0, 1, 0, 0, [])), (20, (.if_icmp .ne 25, 23, 0, 0, 45, 0, 0, [])), (23, (.lload_n 2, 24, 0, 0, 2, 0, 0, [])), (24, (.lconst 1, 25, 0, 1, 0, 0, 0, [])), (25, (.aload_n 0, 26, 0, 0, 0, 0, 0, [])), (26, (.getfield 15, 29, 0, 0, 1, 1, 2, [])), (29, (.iload 4, 31, 0, 0, 4, 0, 0, [])), (31, (.iaload, 32, 0, 0, 0, 0, 0, [])), (32, (.aload_n 0, 33, 0, 0, 0, 0, 0, [])), (33, (.getfield 18, 36, 0, 0, 1, 2, 2, [])), (36, (.iload 4, 38, 0, 0, 4, 0, 0, [])), (38, (.iaload, 39, 0, 0, 0, 0, 0, [])), (39, (.invokestatic 27, 42, 0, 0, 0, 0, 0, [])), (42, (.lshl, 43, 0, 0, 0, 0, 0, [])), (43, (.lor, 44, 0, 0, 0, 0, 0, [])), (44, (.lstore_n 2, 45, 0, 0, 2, 0, 0, [])), (45, (.iinc 4 1, 48, 1, 0, 4, 0, 0, [])), (48, (.goto (-43), 51, 0, 0, 5, 0, 0, [])), (51, (.lload_n 2, 52, 0, 0, 2, 0, 0, [])), (52, (.lreturn, 53, 0, 0, 0, 0, 0, []))]
set_option maxRecDepth 100000 in
theorem ok_PG_factsOf : ∀ x ∈ k_PG_factsOf, okE R_PG 0 b_PG_factsOf x := fc e_PG_factsOf_0 (fc e_PG_factsOf_1 (fc e_PG_factsOf_2 (fc e_PG_factsOf_3 (fc e_PG_factsOf_5 (fc e_PG_factsOf_7 (fc e_PG_factsOf_9 (fc e_PG_factsOf_12 (fc e_PG_factsOf_13 (fc e_PG_factsOf_16 (fc e_PG_factsOf_18 (fc e_PG_factsOf_19 (fc e_PG_factsOf_20 (fc e_PG_factsOf_23 (fc e_PG_factsOf_24 (fc e_PG_factsOf_25 (fc e_PG_factsOf_26 (fc e_PG_factsOf_29 (fc e_PG_factsOf_31 (fc e_PG_factsOf_32 (fc e_PG_factsOf_33 (fc e_PG_factsOf_36 (fc e_PG_factsOf_38 (fc e_PG_factsOf_39 (fc e_PG_factsOf_42 (fc e_PG_factsOf_43 (fc e_PG_factsOf_44 (fc e_PG_factsOf_45 (fc e_PG_factsOf_48 (fc e_PG_factsOf_51 (fc e_PG_factsOf_52 (fun _ h => absurd h List.not_mem_nil)))))))))))))))))))))))))))))))
theorem rt_PG_factsOf : ∀ x ∈ k_PG_factsOf, okR 2 x.2.1 = true := by decide +kernel
theorem e_PG_countStatements_0 : okE R_PG 0 b_PG_countStatements (0, (.iconst 0, 1, 0, 0, 0, 0, 0, [])) := ⟨by decide +kernel, rfl, rfl⟩
theorem e_PG_countStatements_1 : okE R_PG 0 b_PG_countStatements (1, (.istore_n 1, 2, 0, 0, 1, 0, 0, [])) := ⟨by decide +kernel, rfl, rfl⟩
theorem e_PG_countStatements_2 : okE R_PG 0 b_PG_countStatements (2, (.iconst 0, 3, 0, 0, 0, 0, 0, [])) := ⟨by decide +kernel, rfl, rfl⟩
theorem e_PG_countStatements_3 : okE R_PG 0 b_PG_countStatements (3, (.istore_n 2, 4, 0, 0, 2, 0, 0, [])) := ⟨by decide +kernel, rfl, rfl⟩
theorem e_PG_countStatements_4 : okE R_PG 0 b_PG_countStatements (4, (.iload_n 2, 5, 0, 0, 2, 0, 0, [])) := ⟨by decide +kernel, rfl, rfl⟩
theorem e_PG_countStatements_5 : okE R_PG 0 b_PG_countStatements (5, (.bipush 12, 7, 12, 0, 0, 0, 0, [])) := ⟨by decide +kernel, rfl, rfl⟩
theorem e_PG_countStatements_7 : okE R_PG 0 b_PG_countStatements (7, (.if_icmp .ge 22, 10, 0, 0, 29, 0, 0, [])) := ⟨by decide +kernel, rfl, rfl⟩
theorem e_PG_countStatements_10 : okE R_PG 0 b_PG_countStatements (10, (.aload_n 0, 11, 0, 0, 0, 0, 0, [])) := ⟨by decide +kernel, rfl, rfl⟩
theorem e_PG_countStatements_11 : okE R_PG 0 b_PG_countStatements (11, (.getfield 9, 14, 0, 0, 1, 0, 2, [])) := ⟨by decide +kernel, rfl, ⟨_, _, _, rfl, by decide, wf_PG_9, rfl, rfl⟩⟩
theorem e_PG_countStatements_14 : okE R_PG 0 b_PG_countStatements (14, (.iload_n 2, 15, 0, 0, 2, 0, 0, [])) := ⟨by decide +kernel, rfl, rfl⟩
theorem e_PG_countStatements_15 : okE R_PG 0 b_PG_countStatements (15, (.iaload, 16, 0, 0, 0, 0, 0, [])) := ⟨by decide +kernel, rfl, trivial⟩
theorem e_PG_countStatements_16 : okE R_PG 0 b_PG_countStatements (16, (.iconst (-1), 17, (-1), 0, 0, 0, 0, [])) := ⟨by decide +kernel, rfl, rfl⟩
theorem e_PG_countStatements_17 : okE R_PG 0 b_PG_countStatements (17, (.if_icmp .eq 6, 20, 0, 0, 23, 0, 0, [])) := ⟨by decide +kernel, rfl, rfl⟩
theorem e_PG_countStatements_20 : okE R_PG 0 b_PG_countStatements (20, (.iinc 1 1, 23, 1, 0, 1, 0, 0, [])) := ⟨by decide +kernel, rfl, ⟨rfl, rfl⟩⟩
theorem e_PG_countStatements_23 : okE R_PG 0 b_PG_countStatements (23, (.iinc 2 1, 26, 1, 0, 2, 0, 0, [])) := ⟨by decide +kernel, rfl, ⟨rfl, rfl⟩⟩
theorem e_PG_countStatements_26 : okE R_PG 0 b_PG_countStatements (26, (.goto (-22), 29, 0, 0, 4, 0, 0, [])) := ⟨by decide +kernel, rfl, rfl⟩
theorem e_PG_countStatements_29 : okE R_PG 0 b_PG_countStatements (29, (.iload_n 1, 30, 0, 0, 1, 0, 0, [])) := ⟨by decide +kernel, rfl, rfl⟩
theorem e_PG_countStatements_30 : okE R_PG 0 b_PG_countStatements (30, (.ireturn, 31, 0, 0, 0, 0, 0, [])) := ⟨by decide +kernel, rfl, trivial⟩
def k_PG_countStatements : List (Nat × En) := [(0, (.iconst 0, 1, 0, 0, 0, 0, 0, [])), (1, (.istore_n 1, 2, 0, 0, 1, 0, 0, [])), (2, (.iconst 0, 3, 0, 0, 0, 0, 0, [])), (3, (.istore_n 2, 4, 0, 0, 2, 0, 0, [])), (4, (.iload_n 2, 5, 0, 0, 2, 0, 0, [])), (5, (.bipush 12, 7, 12, 0, 0, 0, 0, [])), (7, (.if_icmp .ge 22, 10, 0, 0, 29, 0, 0, [])), (10, (.aload_n 0, 11, 0, 0, 0, 0, 0, [])), (11, (.getfield 9, 14, 0, 0, 1, 0, 2, [])), (14, (.iload_n 2, 15, 0, 0, 2, 0, 0, [])), (15, (.iaload, 16, 0, 0, 0, 0, 0, [])), (16, (.iconst (-1), 17, (-1), 0, 0, 0, 0, [])), (17, (.if_icmp .eq 6, 20, 0, 0, 23, 0, 0, [])), (20, (.iinc 1 1, 23, 1, 0, 1, 0, 0, [])), (23, (.iinc 2 1, 26, 1, 0, 2, 0, 0, [])), (26, (.goto (-22), 29, 0, 0, 4, 0, 0, [])), (29, (.iload_n 1, 30, 0, 0, 1, 0, 0, [])), (30, (.ireturn, 31, 0, 0, 0, 0, 0, []))]
set_option maxRecDepth 100000 in
theorem ok_PG_countStatements : ∀ x ∈ k_PG_countStatements, okE R_PG 0 b_PG_countStatements x := fc e_PG_countStatements_0 (fc e_PG_countStatements_1 (fc e_PG_countStatements_2 (fc e_PG_countStatements_3 (fc e_PG_countStatements_4 (fc e_PG_countStatements_5 (fc e_PG_countStatements_7 (fc e_PG_countStatements_10 (fc e_PG_countStatements_11 (fc e_PG_countStatements_14 (fc e_PG_countStatements_15 (fc e_PG_countStatements_16 (fc e_PG_countStatements_17 (fc e_PG_countStatements_20 (fc e_PG_countStatements_23 (fc e_PG_countStatements_26 (fc e_PG_countStatements_29 (fc e_PG_countStatements_30 (fun _ h => absurd h List.not_mem_nil))))))))))))))))))
theorem rt_PG_countStatements : ∀ x ∈ k_PG_countStatements, okR 0 x.2.1 = true := by decide +kernel
theorem e_PG_leastLine_0 : okE R_PG 0 b_PG_leastLine (0, (.iconst 0, 1, 0, 0, 0, 0, 0, [])) := ⟨by decide +kernel, rfl, rfl⟩
theorem e_PG_leastLine_1 : okE R_PG 0 b_PG_leastLine (1, (.istore 4, 3, 0, 0, 4, 0, 0, [])) := ⟨by decide +kernel, rfl, rfl⟩
theorem e_PG_leastLine_3 : okE R_PG 0 b_PG_leastLine (3, (.iload 4, 5, 0, 0, 4, 0, 0, [])) := ⟨by decide +kernel, rfl, rfl⟩
theorem e_PG_leastLine_5 : okE R_PG 0 b_PG_leastLine (5, (.bipush 12, 7, 12, 0, 0, 0, 0, [])) := ⟨by decide +kernel, rfl, rfl⟩
theorem e_PG_leastLine_7 : okE R_PG 0 b_PG_leastLine (7, (.if_icmp .ge 45, 10, 0, 0, 52, 0, 0, [])) := ⟨by decide +kernel, rfl, rfl⟩
theorem e_PG_leastLine_10 : okE R_PG 0 b_PG_leastLine (10, (.aload_n 0, 11, 0, 0, 0, 0, 0, [])) := ⟨by decide +kernel, rfl, rfl⟩
theorem e_PG_leastLine_11 : okE R_PG 0 b_PG_leastLine (11, (.getfield 9, 14, 0, 0, 1, 0, 2, [])) := ⟨by decide +kernel, rfl, ⟨_, _, _, rfl, by decide, wf_PG_9, rfl, rfl⟩⟩
theorem e_PG_leastLine_14 : okE R_PG 0 b_PG_leastLine (14, (.iload 4, 16, 0, 0, 4, 0, 0, [])) := ⟨by decide +kernel, rfl, rfl⟩
theorem e_PG_leastLine_16 : okE R_PG 0 b_PG_leastLine (16, (.iaload, 17, 0, 0, 0, 0, 0, [])) := ⟨by decide +kernel, rfl, trivial⟩
theorem e_PG_leastLine_17 : okE R_PG 0 b_PG_leastLine (17, (.iload_n 1, 18, 0, 0, 1, 0, 0, [])) := ⟨by decide +kernel, rfl, rfl⟩
theorem e_PG_leastLine_18 : okE R_PG 0 b_PG_leastLine (18, (.if_icmp .ne 28, 21, 0, 0, 46, 0, 0, [])) := ⟨by decide +kernel, rfl, rfl⟩
theorem e_PG_leastLine_21 : okE R_PG 0 b_PG_leastLine (21, (.aload_n 0, 22, 0, 0, 0, 0, 0, [])) := ⟨by decide +kernel, rfl, rfl⟩
theorem e_PG_leastLine_22 : okE R_PG 0 b_PG_leastLine (22, (.getfield 15, 25, 0, 0, 1, 1, 2, [])) := ⟨by decide +kernel, rfl, ⟨_, _, _, rfl, by decide, wf_PG_15, rfl, rfl⟩⟩
theorem e_PG_leastLine_25 : okE R_PG 0 b_PG_leastLine (25, (.iload 4, 27, 0, 0, 4, 0, 0, [])) := ⟨by decide +kernel, rfl, rfl⟩
theorem e_PG_leastLine_27 : okE R_PG 0 b_PG_leastLine (27, (.iaload, 28, 0, 0, 0, 0, 0, [])) := ⟨by decide +kernel, rfl, trivial⟩
theorem e_PG_leastLine_28 : okE R_PG 0 b_PG_leastLine (28, (.iload_n 2, 29, 0, 0, 2, 0, 0, [])) := ⟨by decide +kernel, rfl, rfl⟩
theorem e_PG_leastLine_29 : okE R_PG 0 b_PG_leastLine (29, (.if_icmp .ne 17, 32, 0, 0, 46, 0, 0, [])) := ⟨by decide +kernel, rfl, rfl⟩
theorem e_PG_leastLine_32 : okE R_PG 0 b_PG_leastLine (32, (.aload_n 0, 33, 0, 0, 0, 0, 0, [])) := ⟨by decide +kernel, rfl, rfl⟩
theorem e_PG_leastLine_33 : okE R_PG 0 b_PG_leastLine (33, (.getfield 18, 36, 0, 0, 1, 2, 2, [])) := ⟨by decide +kernel, rfl, ⟨_, _, _, rfl, by decide, wf_PG_18, rfl, rfl⟩⟩
theorem e_PG_leastLine_36 : okE R_PG 0 b_PG_leastLine (36, (.iload 4, 38, 0, 0, 4, 0, 0, [])) := ⟨by decide +kernel, rfl, rfl⟩
theorem e_PG_leastLine_38 : okE R_PG 0 b_PG_leastLine (38, (.iaload, 39, 0, 0, 0, 0, 0, [])) := ⟨by decide +kernel, rfl, trivial⟩
theorem e_PG_leastLine_39 : okE R_PG 0 b_PG_leastLine (39, (.iload_n 3, 40, 0, 0, 3, 0, 0, [])) := ⟨by decide +kernel, rfl, rfl⟩
theorem e_PG_leastLine_40 : okE R_PG 0 b_PG_leastLine (40, (.if_icmp .ne 6, 43, 0, 0, 46, 0, 0, [])) := ⟨by decide +kernel, rfl, rfl⟩
theorem e_PG_leastLine_43 : okE R_PG 0 b_PG_leastLine (43, (.iload 4, 45, 0, 0, 4, 0, 0, [])) := ⟨by decide +kernel, rfl, rfl⟩
theorem e_PG_leastLine_45 : okE R_PG 0 b_PG_leastLine (45, (.ireturn, 46, 0, 0, 0, 0, 0, [])) := ⟨by decide +kernel, rfl, trivial⟩
theorem e_PG_leastLine_46 : okE R_PG 0 b_PG_leastLine (46, (.iinc 4 1, 49, 1, 0, 4, 0, 0, [])) := ⟨by decide +kernel, rfl, ⟨rfl, rfl⟩⟩
theorem e_PG_leastLine_49 : okE R_PG 0 b_PG_leastLine (49, (.goto (-46), 52, 0, 0, 3, 0, 0, [])) := ⟨by decide +kernel, rfl, rfl⟩
theorem e_PG_leastLine_52 : okE R_PG 0 b_PG_leastLine (52, (.iconst (-1), 53, (-1), 0, 0, 0, 0, [])) := ⟨by decide +kernel, rfl, rfl⟩
theorem e_PG_leastLine_53 : okE R_PG 0 b_PG_leastLine (53, (.ireturn, 54, 0, 0, 0, 0, 0, [])) := ⟨by decide +kernel, rfl, trivial⟩
def k_PG_leastLine : List (Nat × En) := [(0, (.iconst 0, 1, 0, 0, 0, 0, 0, [])), (1, (.istore 4, 3, 0, 0, 4, 0, 0, [])), (3, (.iload 4, 5, 0, 0, 4, 0, 0, [])), (5, (.bipush 12, 7, 12, 0, 0, 0, 0, [])), (7, (.if_icmp .ge 45, 10, 0, 0, 52, 0, 0, [])), (10, (.aload_n 0, 11, 0, 0, 0, 0, 0, [])), (11, (.getfield 9, 14, 0, 0, 1, 0, 2, [])), (14, (.iload 4, 16, 0, 0, 4, 0, 0, [])), (16, (.iaload, 17, 0, 0, 0, 0, 0, [])), (17, (.iload_n 1, 18, 0, 0, 1, 0, 0, [])), (18, (.if_icmp .ne 28, 21, 0, 0, 46, 0, 0, [])), (21, (.aload_n 0, 22, 0, 0, 0, 0, 0, [])), (22, (.getfield 15, 25, 0, 0, 1, 1, 2, [])), (25, (.iload 4, 27, 0, 0, 4, 0, 0, [])), (27, (.iaload, 28, 0, 0, 0, 0, 0, [])), (28, (.iload_n 2, 29, 0, 0, 2, 0, 0, [])), (29, (.if_icmp .ne 17, 32, 0, 0, 46, 0, 0, [])), (32, (.aload_n 0, 33, 0, 0, 0, 0, 0, [])), (33, (.getfield 18, 36, 0, 0, 1, 2, 2, [])), (36, (.iload 4, 38, 0, 0, 4, 0, 0, [])), (38, (.iaload, 39, 0, 0, 0, 0, 0, [])), (39, (.iload_n 3, 40, 0, 0, 3, 0, 0, [])), (40, (.if_icmp .ne 6, 43, 0, 0, 46, 0, 0, [])), (43, (.iload 4, 45, 0, 0, 4, 0, 0, [])), (45, (.ireturn, 46, 0, 0, 0, 0, 0, [])), (46, (.iinc 4 1, 49, 1, 0, 4, 0, 0, [])), (49, (.goto (-46), 52, 0, 0, 3, 0, 0, [])), (52, (.iconst (-1), 53, (-1), 0, 0, 0, 0, [])), (53, (.ireturn, 54, 0, 0, 0, 0, 0, []))]
set_option maxRecDepth 100000 in
theorem ok_PG_leastLine : ∀ x ∈ k_PG_leastLine, okE R_PG 0 b_PG_leastLine x := fc e_PG_leastLine_0 (fc e_PG_leastLine_1 (fc e_PG_leastLine_3 (fc e_PG_leastLine_5 (fc e_PG_leastLine_7 (fc e_PG_leastLine_10 (fc e_PG_leastLine_11 (fc e_PG_leastLine_14 (fc e_PG_leastLine_16 (fc e_PG_leastLine_17 (fc e_PG_leastLine_18 (fc e_PG_leastLine_21 (fc e_PG_leastLine_22 (fc e_PG_leastLine_25 (fc e_PG_leastLine_27 (fc e_PG_leastLine_28 (fc e_PG_leastLine_29 (fc e_PG_leastLine_32 (fc e_PG_leastLine_33 (fc e_PG_leastLine_36 (fc e_PG_leastLine_38 (fc e_PG_leastLine_39 (fc e_PG_leastLine_40 (fc e_PG_leastLine_43 (fc e_PG_leastLine_45 (fc e_PG_leastLine_46 (fc e_PG_leastLine_49 (fc e_PG_leastLine_52 (fc e_PG_leastLine_53 (fun _ h => absurd h List.not_mem_nil)))))))))))))))))))))))))))))
theorem rt_PG_leastLine : ∀ x ∈ k_PG_leastLine, okR 0 x.2.1 = true := by decide +kernel
theorem e_RS_init_0 : okE R_RS 1 b_RS_init (0, (.aload_n 0, 1, 0, 0, 0, 0, 0, [])) := ⟨by decide +kernel, rfl, rfl⟩
theorem e_RS_init_1 : okE R_RS 1 b_RS_init (1, (.invokespecial 3, 4, 0, 0, 0, 0, 0, [])) := ⟨by decide +kernel, rfl, trivial⟩
theorem e_RS_init_4 : okE R_RS 1 b_RS_init (4, (.aload_n 0, 5, 0, 0, 0, 0, 0, [])) := ⟨by decide +kernel, rfl, rfl⟩
theorem e_RS_init_5 : okE R_RS 1 b_RS_init (5, (.bipush 14, 7, 14, 0, 0, 0, 0, [])) := ⟨by decide +kernel, rfl, rfl⟩
theorem e_RS_init_7 : okE R_RS 1 b_RS_init (7, (.newarray .int, 9, 0, 0, 0, 0, 0, [])) := ⟨by decide +kernel, rfl, Or.inl ⟨rfl, rfl, wa_int⟩⟩
theorem e_RS_init_9 : okE R_RS 1 b_RS_init (9, (.putfield 9, 12, 0, 0, 2, 0, 2, [])) := ⟨by decide +kernel, rfl, ⟨⟨_, _, _, rfl, by decide, wf_RS_9, rfl, rfl⟩, ⟨_, _, _, rfl, Or.inr ⟨rfl, rfl, rfl⟩, ⟨_, tk_RS.1 0 (by decide), fun a => ⟨rfl, rfl⟩⟩⟩⟩⟩
theorem e_RS_init_12 : okE R_RS 1 b_RS_init (12, (.aload_n 0, 13, 0, 0, 0, 0, 0, [])) := ⟨by decide +kernel, rfl, rfl⟩
theorem e_RS_init_13 : okE R_RS 1 b_RS_init (13, (.bipush 14, 15, 14, 0, 0, 0, 0, [])) := ⟨by decide +kernel, rfl, rfl⟩
theorem e_RS_init_15 : okE R_RS 1 b_RS_init (15, (.newarray .long, 17, 0, 0, 1, 0, 0, [])) := ⟨by decide +kernel, rfl, Or.inr (Or.inl ⟨rfl, rfl, wa_long⟩)⟩
theorem e_RS_init_17 : okE R_RS 1 b_RS_init (17, (.putfield 15, 20, 0, 0, 2, 1, 2, [])) := ⟨by decide +kernel, rfl, ⟨⟨_, _, _, rfl, by decide, wf_RS_15, rfl, rfl⟩, ⟨_, _, _, rfl, Or.inr ⟨rfl, rfl, rfl⟩, ⟨_, tk_RS.1 1 (by decide), fun a => ⟨rfl, rfl⟩⟩⟩⟩⟩
theorem e_RS_init_20 : okE R_RS 1 b_RS_init (20, (.aload_n 0, 21, 0, 0, 0, 0, 0, [])) := ⟨by decide +kernel, rfl, rfl⟩
theorem e_RS_init_21 : okE R_RS 1 b_RS_init (21, (.bipush 14, 23, 14, 0, 0, 0, 0, [])) := ⟨by decide +kernel, rfl, rfl⟩
theorem e_RS_init_23 : okE R_RS 1 b_RS_init (23, (.newarray .long, 25, 0, 0, 1, 0, 0, [])) := ⟨by decide +kernel, rfl, Or.inr (Or.inl ⟨rfl, rfl, wa_long⟩)⟩
theorem e_RS_init_25 : okE R_RS 1 b_RS_init (25, (.putfield 19, 28, 0, 0, 2, 2, 2, [])) := ⟨by decide +kernel, rfl, ⟨⟨_, _, _, rfl, by decide, wf_RS_19, rfl, rfl⟩, ⟨_, _, _, rfl, Or.inr ⟨rfl, rfl, rfl⟩, ⟨_, tk_RS.1 2 (by decide), fun a => ⟨rfl, rfl⟩⟩⟩⟩⟩
theorem e_RS_init_28 : okE R_RS 1 b_RS_init (28, (.aload_n 0, 29, 0, 0, 0, 0, 0, [])) := ⟨by decide +kernel, rfl, rfl⟩
theorem e_RS_init_29 : okE R_RS 1 b_RS_init (29, (.bipush 14, 31, 14, 0, 0, 0, 0, [])) := ⟨by decide +kernel, rfl, rfl⟩
theorem e_RS_init_31 : okE R_RS 1 b_RS_init (31, (.newarray .long, 33, 0, 0, 1, 0, 0, [])) := ⟨by decide +kernel, rfl, Or.inr (Or.inl ⟨rfl, rfl, wa_long⟩)⟩
theorem e_RS_init_33 : okE R_RS 1 b_RS_init (33, (.putfield 22, 36, 0, 0, 2, 3, 2, [])) := ⟨by decide +kernel, rfl, ⟨⟨_, _, _, rfl, by decide, wf_RS_22, rfl, rfl⟩, ⟨_, _, _, rfl, Or.inr ⟨rfl, rfl, rfl⟩, ⟨_, tk_RS.1 3 (by decide), fun a => ⟨rfl, rfl⟩⟩⟩⟩⟩
theorem e_RS_init_36 : okE R_RS 1 b_RS_init (36, (.aload_n 0, 37, 0, 0, 0, 0, 0, [])) := ⟨by decide +kernel, rfl, rfl⟩
theorem e_RS_init_37 : okE R_RS 1 b_RS_init (37, (.bipush 9, 39, 9, 0, 0, 0, 0, [])) := ⟨by decide +kernel, rfl, rfl⟩
theorem e_RS_init_39 : okE R_RS 1 b_RS_init (39, (.putfield 25, 42, 0, 0, 2, 4, 0, [])) := ⟨by decide +kernel, rfl, ⟨⟨_, _, _, rfl, by decide, wf_RS_25, rfl, rfl⟩, ⟨_, _, _, rfl, Or.inl rfl, tk_RS.1 4 (by decide)⟩⟩⟩
theorem e_RS_init_42 : okE R_RS 1 b_RS_init (42, (.aload_n 0, 43, 0, 0, 0, 0, 0, [])) := ⟨by decide +kernel, rfl, rfl⟩
theorem e_RS_init_43 : okE R_RS 1 b_RS_init (43, (.getfield 9, 46, 0, 0, 2, 0, 2, [])) := ⟨by decide +kernel, rfl, ⟨_, _, _, rfl, by decide, wf_RS_9, rfl, rfl⟩⟩
theorem e_RS_init_46 : okE R_RS 1 b_RS_init (46, (.iconst 2, 47, 2, 0, 0, 0, 0, [])) := ⟨by decide +kernel, rfl, rfl⟩
theorem e_RS_init_47 : okE R_RS 1 b_RS_init (47, (.invokestatic 29, 50, 0, 0, 1, 0, 0, [])) := ⟨by decide +kernel, rfl, trivial⟩
theorem e_RS_init_50 : okE R_RS 1 b_RS_init (50, (.return_, 51, 0, 0, 0, 0, 0, [])) := ⟨by decide +kernel, rfl, trivial⟩
def k_RS_init : List (Nat × En) := [(0, (.aload_n 0, 1, 0, 0, 0, 0, 0, [])), (1, (.invokespecial 3, 4, 0, 0, 0, 0, 0, [])), (4, (.aload_n 0, 5, 0, 0, 0, 0, 0, [])), (5, (.bipush 14, 7, 14, 0, 0, 0, 0, [])), (7, (.newarray .int, 9, 0, 0, 0, 0, 0, [])), (9, (.putfield 9, 12, 0, 0, 2, 0, 2, [])), (12, (.aload_n 0, 13, 0, 0, 0, 0, 0, [])), (13, (.bipush 14, 15, 14, 0, 0, 0, 0, [])), (15, (.newarray .long, 17, 0, 0, 1, 0, 0, [])), (17, (.putfield 15, 20, 0, 0, 2, 1, 2, [])), (20, (.aload_n 0, 21, 0, 0, 0, 0, 0, [])), (21, (.bipush 14, 23, 14, 0, 0, 0, 0, [])), (23, (.newarray .long, 25, 0, 0, 1, 0, 0, [])), (25, (.putfield 19, 28, 0, 0, 2, 2, 2, [])), (28, (.aload_n 0, 29, 0, 0, 0, 0, 0, [])), (29, (.bipush 14, 31, 14, 0, 0, 0, 0, [])), (31, (.newarray .long, 33, 0, 0, 1, 0, 0, [])), (33, (.putfield 22, 36, 0, 0, 2, 3, 2, [])), (36, (.aload_n 0, 37, 0, 0, 0, 0, 0, [])), (37, (.bipush 9, 39, 9, 0, 0, 0, 0, [])), (39, (.putfield 25, 42, 0, 0, 2, 4, 0, [])), (42, (.aload_n 0, 43, 0, 0, 0, 0, 0, [])), (43, (.getfield 9, 46, 0, 0, 2, 0, 2, [])), (46, (.iconst 2, 47, 2, 0, 0, 0, 0, [])), (47, (.invokestatic 29, 50, 0, 0, 1, 0, 0, [])), (50, (.return_, 51, 0, 0, 0, 0, 0, []))]
set_option maxRecDepth 100000 in
theorem ok_RS_init : ∀ x ∈ k_RS_init, okE R_RS 1 b_RS_init x := fc e_RS_init_0 (fc e_RS_init_1 (fc e_RS_init_4 (fc e_RS_init_5 (fc e_RS_init_7 (fc e_RS_init_9 (fc e_RS_init_12 (fc e_RS_init_13 (fc e_RS_init_15 (fc e_RS_init_17 (fc e_RS_init_20 (fc e_RS_init_21 (fc e_RS_init_23 (fc e_RS_init_25 (fc e_RS_init_28 (fc e_RS_init_29 (fc e_RS_init_31 (fc e_RS_init_33 (fc e_RS_init_36 (fc e_RS_init_37 (fc e_RS_init_39 (fc e_RS_init_42 (fc e_RS_init_43 (fc e_RS_init_46 (fc e_RS_init_47 (fc e_RS_init_50 (fun _ h => absurd h List.not_mem_nil))))))))))))))))))))))))))
theorem rt_RS_init : ∀ x ∈ k_RS_init, okR 3 x.2.1 = true := by decide +kernel
theorem e_RS_add_0 : okE R_RS 0 b_RS_add (0, (.aload_n 0, 1, 0, 0, 0, 0, 0, [])) := ⟨by decide +kernel, rfl, rfl⟩
theorem e_RS_add_1 : okE R_RS 0 b_RS_add (1, (.getfield 9, 4, 0, 0, 2, 0, 2, [])) := ⟨by decide +kernel, rfl, ⟨_, _, _, rfl, by decide, wf_RS_9, rfl, rfl⟩⟩
theorem e_RS_add_4 : okE R_RS 0 b_RS_add (4, (.aload_n 0, 5, 0, 0, 0, 0, 0, [])) := ⟨by decide +kernel, rfl, rfl⟩
theorem e_RS_add_5 : okE R_RS 0 b_RS_add (5, (.getfield 25, 8, 0, 0, 2, 4, 0, [])) := ⟨by decide +kernel, rfl, ⟨_, _, _, rfl, by decide, wf_RS_25, rfl, rfl⟩⟩
theorem e_RS_add_8 : okE R_RS 0 b_RS_add (8, (.iload_n 1, 9, 0, 0, 1, 0, 0, [])) := ⟨by decide +kernel, rfl, rfl⟩
theorem e_RS_add_9 : okE R_RS 0 b_RS_add (9, (.iastore, 10, 0, 0, 0, 0, 0, [])) := ⟨by decide +kernel, rfl, trivial⟩
theorem e_RS_add_10 : okE R_RS 0 b_RS_add (10, (.aload_n 0, 11, 0, 0, 0, 0, 0, [])) := ⟨by decide +kernel, rfl, rfl⟩
theorem e_RS_add_11 : okE R_RS 0 b_RS_add (11, (.dup, 12, 0, 0, 0, 0, 0, [])) := ⟨by decide +kernel, rfl, trivial⟩
theorem e_RS_add_12 : okE R_RS 0 b_RS_add (12, (.getfield 25, 15, 0, 0, 2, 4, 0, [])) := ⟨by decide +kernel, rfl, ⟨_, _, _, rfl, by decide, wf_RS_25, rfl, rfl⟩⟩
theorem e_RS_add_15 : okE R_RS 0 b_RS_add (15, (.iconst 1, 16, 1, 0, 0, 0, 0, [])) := ⟨by decide +kernel, rfl, rfl⟩
theorem e_RS_add_16 : okE R_RS 0 b_RS_add (16, (.iadd, 17, 0, 0, 0, 0, 0, [])) := ⟨by decide +kernel, rfl, trivial⟩
theorem e_RS_add_17 : okE R_RS 0 b_RS_add (17, (.putfield 25, 20, 0, 0, 2, 4, 0, [])) := ⟨by decide +kernel, rfl, ⟨⟨_, _, _, rfl, by decide, wf_RS_25, rfl, rfl⟩, ⟨_, _, _, rfl, Or.inl rfl, tk_RS.1 4 (by decide)⟩⟩⟩
theorem e_RS_add_20 : okE R_RS 0 b_RS_add (20, (.aload_n 0, 21, 0, 0, 0, 0, 0, [])) := ⟨by decide +kernel, rfl, rfl⟩
theorem e_RS_add_21 : okE R_RS 0 b_RS_add (21, (.getfield 25, 24, 0, 0, 2, 4, 0, [])) := ⟨by decide +kernel, rfl, ⟨_, _, _, rfl, by decide, wf_RS_25, rfl, rfl⟩⟩
theorem e_RS_add_24 : okE R_RS 0 b_RS_add (24, (.iconst 1, 25, 1, 0, 0, 0, 0, [])) := ⟨by decide +kernel, rfl, rfl⟩
theorem e_RS_add_25 : okE R_RS 0 b_RS_add (25, (.isub, 26, 0, 0, 0, 0, 0, [])) := ⟨by decide +kernel, rfl, trivial⟩
theorem e_RS_add_26 : okE R_RS 0 b_RS_add (26, (.ireturn, 27, 0, 0, 0, 0, 0, [])) := ⟨by decide +kernel, rfl, trivial⟩
def k_RS_add : List (Nat × En) := [(0, (.aload_n 0, 1, 0, 0, 0, 0, 0, [])), (1, (.getfield 9, 4, 0, 0, 2, 0, 2, [])), (4, (.aload_n 0, 5, 0, 0, 0, 0, 0, [])), (5, (.getfield 25, 8, 0, 0, 2, 4, 0, [])), (8, (.iload_n 1, 9, 0, 0, 1, 0, 0, [])), (9, (.iastore, 10, 0, 0, 0, 0, 0, [])), (10, (.aload_n 0, 11, 0, 0, 0, 0, 0, [])), (11, (.dup, 12, 0, 0, 0, 0, 0, [])), (12, (.getfield 25, 15, 0, 0, 2, 4, 0, [])), (15, (.iconst 1, 16, 1, 0, 0, 0, 0, [])), (16, (.iadd, 17, 0, 0, 0, 0, 0, [])), (17, (.putfield 25, 20, 0, 0, 2, 4, 0, [])), (20, (.aload_n 0, 21, 0, 0, 0, 0, 0, [])), (21, (.getfield 25, 24, 0, 0, 2, 4, 0, [])), (24, (.iconst 1, 25, 1, 0, 0, 0, 0, [])), (25, (.isub, 26, 0, 0, 0, 0, 0, [])), (26, (.ireturn, 27, 0, 0, 0, 0, 0, []))]
set_option maxRecDepth 100000 in
theorem ok_RS_add : ∀ x ∈ k_RS_add, okE R_RS 0 b_RS_add x := fc e_RS_add_0 (fc e_RS_add_1 (fc e_RS_add_4 (fc e_RS_add_5 (fc e_RS_add_8 (fc e_RS_add_9 (fc e_RS_add_10 (fc e_RS_add_11 (fc e_RS_add_12 (fc e_RS_add_15 (fc e_RS_add_16 (fc e_RS_add_17 (fc e_RS_add_20 (fc e_RS_add_21 (fc e_RS_add_24 (fc e_RS_add_25 (fc e_RS_add_26 (fun _ h => absurd h List.not_mem_nil)))))))))))))))))
theorem rt_RS_add : ∀ x ∈ k_RS_add, okR 0 x.2.1 = true := by decide +kernel
theorem e_RS_isUsers_0 : okE R_RS 0 b_RS_isUsers (0, (.iload_n 1, 1, 0, 0, 1, 0, 0, [])) := ⟨by decide +kernel, rfl, rfl⟩
theorem e_RS_isUsers_1 : okE R_RS 0 b_RS_isUsers (1, (.bipush 9, 3, 9, 0, 0, 0, 0, [])) := ⟨by decide +kernel, rfl, rfl⟩
theorem e_RS_isUsers_3 : okE R_RS 0 b_RS_isUsers (3, (.if_icmp .lt 15, 6, 0, 0, 18, 0, 0, [])) := ⟨by decide +kernel, rfl, rfl⟩
theorem e_RS_isUsers_6 : okE R_RS 0 b_RS_isUsers (6, (.iload_n 1, 7, 0, 0, 1, 0, 0, [])) := ⟨by decide +kernel, rfl, rfl⟩
theorem e_RS_isUsers_7 : okE R_RS 0 b_RS_isUsers (7, (.aload_n 0, 8, 0, 0, 0, 0, 0, [])) := ⟨by decide +kernel, rfl, rfl⟩
theorem e_RS_isUsers_8 : okE R_RS 0 b_RS_isUsers (8, (.getfield 25, 11, 0, 0, 2, 4, 0, [])) := ⟨by decide +kernel, rfl, ⟨_, _, _, rfl, by decide, wf_RS_25, rfl, rfl⟩⟩
theorem e_RS_isUsers_11 : okE R_RS 0 b_RS_isUsers (11, (.if_icmp .ge 7, 14, 0, 0, 18, 0, 0, [])) := ⟨by decide +kernel, rfl, rfl⟩
theorem e_RS_isUsers_14 : okE R_RS 0 b_RS_isUsers (14, (.iconst 1, 15, 1, 0, 0, 0, 0, [])) := ⟨by decide +kernel, rfl, rfl⟩
theorem e_RS_isUsers_15 : okE R_RS 0 b_RS_isUsers (15, (.goto 4, 18, 0, 0, 19, 0, 0, [])) := ⟨by decide +kernel, rfl, rfl⟩
theorem e_RS_isUsers_18 : okE R_RS 0 b_RS_isUsers (18, (.iconst 0, 19, 0, 0, 0, 0, 0, [])) := ⟨by decide +kernel, rfl, rfl⟩
theorem e_RS_isUsers_19 : okE R_RS 0 b_RS_isUsers (19, (.ireturn, 20, 0, 0, 0, 0, 0, [])) := ⟨by decide +kernel, rfl, trivial⟩
def k_RS_isUsers : List (Nat × En) := [(0, (.iload_n 1, 1, 0, 0, 1, 0, 0, [])), (1, (.bipush 9, 3, 9, 0, 0, 0, 0, [])), (3, (.if_icmp .lt 15, 6, 0, 0, 18, 0, 0, [])), (6, (.iload_n 1, 7, 0, 0, 1, 0, 0, [])), (7, (.aload_n 0, 8, 0, 0, 0, 0, 0, [])), (8, (.getfield 25, 11, 0, 0, 2, 4, 0, [])), (11, (.if_icmp .ge 7, 14, 0, 0, 18, 0, 0, [])), (14, (.iconst 1, 15, 1, 0, 0, 0, 0, [])), (15, (.goto 4, 18, 0, 0, 19, 0, 0, [])), (18, (.iconst 0, 19, 0, 0, 0, 0, 0, [])), (19, (.ireturn, 20, 0, 0, 0, 0, 0, []))]
set_option maxRecDepth 100000 in
theorem ok_RS_isUsers : ∀ x ∈ k_RS_isUsers, okE R_RS 0 b_RS_isUsers x := fc e_RS_isUsers_0 (fc e_RS_isUsers_1 (fc e_RS_isUsers_3 (fc e_RS_isUsers_6 (fc e_RS_isUsers_7 (fc e_RS_isUsers_8 (fc e_RS_isUsers_11 (fc e_RS_isUsers_14 (fc e_RS_isUsers_15 (fc e_RS_isUsers_18 (fc e_RS_isUsers_19 (fun _ h => absurd h List.not_mem_nil)))))))))))
theorem rt_RS_isUsers : ∀ x ∈ k_RS_isUsers, okR 1 x.2.1 = true := by decide +kernel
theorem e_RS_cellOf_0 : okE R_RS 0 b_RS_cellOf (0, (.aload_n 0, 1, 0, 0, 0, 0, 0, [])) := ⟨by decide +kernel, rfl, rfl⟩
theorem e_RS_cellOf_1 : okE R_RS 0 b_RS_cellOf (1, (.iload_n 1, 2, 0, 0, 1, 0, 0, [])) := ⟨by decide +kernel, rfl, rfl⟩
theorem e_RS_cellOf_2 : okE R_RS 0 b_RS_cellOf (2, (.invokevirtual 35, 5, 0, 0, 0, 0, 0, [])) := ⟨by decide +kernel, rfl, trivial⟩
theorem e_RS_cellOf_5 : okE R_RS 0 b_RS_cellOf (5, (.ifCond .ne 5, 8, 0, 0, 10, 0, 0, [])) := ⟨by decide +kernel, rfl, rfl⟩
theorem e_RS_cellOf_8 : okE R_RS 0 b_RS_cellOf (8, (.iconst (-1), 9, (-1), 0, 0, 0, 0, [])) := ⟨by decide +kernel, rfl, rfl⟩
theorem e_RS_cellOf_9 : okE R_RS 0 b_RS_cellOf (9, (.ireturn, 10, 0, 0, 0, 0, 0, [])) := ⟨by decide +kernel, rfl, trivial⟩
theorem e_RS_cellOf_10 : okE R_RS 0 b_RS_cellOf (10, (.aload_n 0, 11, 0, 0, 0, 0, 0, [])) := ⟨by decide +kernel, rfl, rfl⟩
theorem e_RS_cellOf_11 : okE R_RS 0 b_RS_cellOf (11, (.iload_n 1, 12, 0, 0, 1, 0, 0, [])) := ⟨by decide +kernel, rfl, rfl⟩
theorem e_RS_cellOf_12 : okE R_RS 0 b_RS_cellOf (12, (.iload_n 3, 13, 0, 0, 3, 0, 0, [])) := ⟨by decide +kernel, rfl, rfl⟩
theorem e_RS_cellOf_13 : okE R_RS 0 b_RS_cellOf (13, (.invokevirtual 39, 16, 0, 0, 1, 0, 0, [])) := ⟨by decide +kernel, rfl, trivial⟩
theorem e_RS_cellOf_16 : okE R_RS 0 b_RS_cellOf (16, (.istore 4, 18, 0, 0, 4, 0, 0, [])) := ⟨by decide +kernel, rfl, rfl⟩
theorem e_RS_cellOf_18 : okE R_RS 0 b_RS_cellOf (18, (.iload_n 2, 19, 0, 0, 2, 0, 0, [])) := ⟨by decide +kernel, rfl, rfl⟩
theorem e_RS_cellOf_19 : okE R_RS 0 b_RS_cellOf (19, (.invokestatic 43, 22, 0, 0, 2, 0, 0, [])) := ⟨by decide +kernel, rfl, trivial⟩
theorem e_RS_cellOf_22 : okE R_RS 0 b_RS_cellOf (22, (.ifCond .eq 20, 25, 0, 0, 42, 0, 0, [])) := ⟨by decide +kernel, rfl, rfl⟩
theorem e_RS_cellOf_25 : okE R_RS 0 b_RS_cellOf (25, (.iload 4, 27, 0, 0, 4, 0, 0, [])) := ⟨by decide +kernel, rfl, rfl⟩
theorem e_RS_cellOf_27 : okE R_RS 0 b_RS_cellOf (27, (.invokestatic 43, 30, 0, 0, 2, 0, 0, [])) := ⟨by decide +kernel, rfl, trivial⟩
theorem e_RS_cellOf_30 : okE R_RS 0 b_RS_cellOf (30, (.ifCond .eq 12, 33, 0, 0, 42, 0, 0, [])) := ⟨by decide +kernel, rfl, rfl⟩
theorem e_RS_cellOf_33 : okE R_RS 0 b_RS_cellOf (33, (.iload_n 2, 34, 0, 0, 2, 0, 0, [])) := ⟨by decide +kernel, rfl, rfl⟩
theorem e_RS_cellOf_34 : okE R_RS 0 b_RS_cellOf (34, (.iload 4, 36, 0, 0, 4, 0, 0, [])) := ⟨by decide +kernel, rfl, rfl⟩
theorem e_RS_cellOf_36 : okE R_RS 0 b_RS_cellOf (36, (.invokestatic 46, 39, 0, 0, 3, 0, 0, [])) := ⟨by decide +kernel, rfl, trivial⟩
theorem e_RS_cellOf_39 : okE R_RS 0 b_RS_cellOf (39, (.goto 4, 42, 0, 0, 43, 0, 0, [])) := ⟨by decide +kernel, rfl, rfl⟩
theorem e_RS_cellOf_42 : okE R_RS 0 b_RS_cellOf (42, (.iconst (-1), 43, (-1), 0, 0, 0, 0, [])) := ⟨by decide +kernel, rfl, rfl⟩
theorem e_RS_cellOf_43 : okE R_RS 0 b_RS_cellOf (43, (.ireturn, 44, 0, 0, 0, 0, 0, [])) := ⟨by decide +kernel, rfl, trivial⟩
def k_RS_cellOf : List (Nat × En) := [(0, (.aload_n 0, 1, 0, 0, 0, 0, 0, [])), (1, (.iload_n 1, 2, 0, 0, 1, 0, 0, [])), (2, (.invokevirtual 35, 5, 0, 0, 0, 0, 0, [])), (5, (.ifCond .ne 5, 8, 0, 0, 10, 0, 0, [])), (8, (.iconst (-1), 9, (-1), 0, 0, 0, 0, [])), (9, (.ireturn, 10, 0, 0, 0, 0, 0, [])), (10, (.aload_n 0, 11, 0, 0, 0, 0, 0, [])), (11, (.iload_n 1, 12, 0, 0, 1, 0, 0, [])), (12, (.iload_n 3, 13, 0, 0, 3, 0, 0, [])), (13, (.invokevirtual 39, 16, 0, 0, 1, 0, 0, [])), (16, (.istore 4, 18, 0, 0, 4, 0, 0, [])), (18, (.iload_n 2, 19, 0, 0, 2, 0, 0, [])), (19, (.invokestatic 43, 22, 0, 0, 2, 0, 0, [])), (22, (.ifCond .eq 20, 25, 0, 0, 42, 0, 0, [])), (25, (.iload 4, 27, 0, 0, 4, 0, 0, [])), (27, (.invokestatic 43, 30, 0, 0, 2, 0, 0, [])), (30, (.ifCond .eq 12, 33, 0, 0, 42, 0, 0, [])), (33, (.iload_n 2, 34, 0, 0, 2, 0, 0, [])), (34, (.iload 4, 36, 0, 0, 4, 0, 0, [])), (36, (.invokestatic 46, 39, 0, 0, 3, 0, 0, [])), (39, (.goto 4, 42, 0, 0, 43, 0, 0, [])), (42, (.iconst (-1), 43, (-1), 0, 0, 0, 0, [])), (43, (.ireturn, 44, 0, 0, 0, 0, 0, []))]
set_option maxRecDepth 100000 in
theorem ok_RS_cellOf : ∀ x ∈ k_RS_cellOf, okE R_RS 0 b_RS_cellOf x := fc e_RS_cellOf_0 (fc e_RS_cellOf_1 (fc e_RS_cellOf_2 (fc e_RS_cellOf_5 (fc e_RS_cellOf_8 (fc e_RS_cellOf_9 (fc e_RS_cellOf_10 (fc e_RS_cellOf_11 (fc e_RS_cellOf_12 (fc e_RS_cellOf_13 (fc e_RS_cellOf_16 (fc e_RS_cellOf_18 (fc e_RS_cellOf_19 (fc e_RS_cellOf_22 (fc e_RS_cellOf_25 (fc e_RS_cellOf_27 (fc e_RS_cellOf_30 (fc e_RS_cellOf_33 (fc e_RS_cellOf_34 (fc e_RS_cellOf_36 (fc e_RS_cellOf_39 (fc e_RS_cellOf_42 (fc e_RS_cellOf_43 (fun _ h => absurd h List.not_mem_nil)))))))))))))))))))))))
theorem rt_RS_cellOf : ∀ x ∈ k_RS_cellOf, okR 0 x.2.1 = true := by decide +kernel
theorem e_RS_isThere_0 : okE R_RS 0 b_RS_isThere (0, (.iload_n 1, 1, 0, 0, 1, 0, 0, [])) := ⟨by decide +kernel, rfl, rfl⟩
theorem e_RS_isThere_1 : okE R_RS 0 b_RS_isThere (1, (.ifCond .lt 15, 4, 0, 0, 16, 0, 0, [])) := ⟨by decide +kernel, rfl, rfl⟩
theorem e_RS_isThere_4 : okE R_RS 0 b_RS_isThere (4, (.iload_n 1, 5, 0, 0, 1, 0, 0, [])) := ⟨by decide +kernel, rfl, rfl⟩
theorem e_RS_isThere_5 : okE R_RS 0 b_RS_isThere (5, (.aload_n 0, 6, 0, 0, 0, 0, 0, [])) := ⟨by decide +kernel, rfl, rfl⟩
theorem e_RS_isThere_6 : okE R_RS 0 b_RS_isThere (6, (.getfield 25, 9, 0, 0, 2, 4, 0, [])) := ⟨by decide +kernel, rfl, ⟨_, _, _, rfl, by decide, wf_RS_25, rfl, rfl⟩⟩
theorem e_RS_isThere_9 : okE R_RS 0 b_RS_isThere (9, (.if_icmp .ge 7, 12, 0, 0, 16, 0, 0, [])) := ⟨by decide +kernel, rfl, rfl⟩
theorem e_RS_isThere_12 : okE R_RS 0 b_RS_isThere (12, (.iconst 1, 13, 1, 0, 0, 0, 0, [])) := ⟨by decide +kernel, rfl, rfl⟩
theorem e_RS_isThere_13 : okE R_RS 0 b_RS_isThere (13, (.goto 4, 16, 0, 0, 17, 0, 0, [])) := ⟨by decide +kernel, rfl, rfl⟩
theorem e_RS_isThere_16 : okE R_RS 0 b_RS_isThere (16, (.iconst 0, 17, 0, 0, 0, 0, 0, [])) := ⟨by decide +kernel, rfl, rfl⟩
theorem e_RS_isThere_17 : okE R_RS 0 b_RS_isThere (17, (.ireturn, 18, 0, 0, 0, 0, 0, [])) := ⟨by decide +kernel, rfl, trivial⟩
def k_RS_isThere : List (Nat × En) := [(0, (.iload_n 1, 1, 0, 0, 1, 0, 0, [])), (1, (.ifCond .lt 15, 4, 0, 0, 16, 0, 0, [])), (4, (.iload_n 1, 5, 0, 0, 1, 0, 0, [])), (5, (.aload_n 0, 6, 0, 0, 0, 0, 0, [])), (6, (.getfield 25, 9, 0, 0, 2, 4, 0, [])), (9, (.if_icmp .ge 7, 12, 0, 0, 16, 0, 0, [])), (12, (.iconst 1, 13, 1, 0, 0, 0, 0, [])), (13, (.goto 4, 16, 0, 0, 17, 0, 0, [])), (16, (.iconst 0, 17, 0, 0, 0, 0, 0, [])), (17, (.ireturn, 18, 0, 0, 0, 0, 0, []))]
set_option maxRecDepth 100000 in
theorem ok_RS_isThere : ∀ x ∈ k_RS_isThere, okE R_RS 0 b_RS_isThere x := fc e_RS_isThere_0 (fc e_RS_isThere_1 (fc e_RS_isThere_4 (fc e_RS_isThere_5 (fc e_RS_isThere_6 (fc e_RS_isThere_9 (fc e_RS_isThere_12 (fc e_RS_isThere_13 (fc e_RS_isThere_16 (fc e_RS_isThere_17 (fun _ h => absurd h List.not_mem_nil))))))))))
theorem rt_RS_isThere : ∀ x ∈ k_RS_isThere, okR 1 x.2.1 = true := by decide +kernel
theorem e_RS_secondOf_0 : okE R_RS 0 b_RS_secondOf (0, (.aload_n 0, 1, 0, 0, 0, 0, 0, [])) := ⟨by decide +kernel, rfl, rfl⟩
theorem e_RS_secondOf_1 : okE R_RS 0 b_RS_secondOf (1, (.getfield 9, 4, 0, 0, 2, 0, 2, [])) := ⟨by decide +kernel, rfl, ⟨_, _, _, rfl, by decide, wf_RS_9, rfl, rfl⟩⟩
theorem e_RS_secondOf_4 : okE R_RS 0 b_RS_secondOf (4, (.iload_n 1, 5, 0, 0, 1, 0, 0, [])) := ⟨by decide +kernel, rfl, rfl⟩
theorem e_RS_secondOf_5 : okE R_RS 0 b_RS_secondOf (5, (.iaload, 6, 0, 0, 0, 0, 0, [])) := ⟨by decide +kernel, rfl, trivial⟩
theorem e_RS_secondOf_6 : okE R_RS 0 b_RS_secondOf (6, (.iconst 1, 7, 1, 0, 0, 0, 0, [])) := ⟨by decide +kernel, rfl, rfl⟩
theorem e_RS_secondOf_7 : okE R_RS 0 b_RS_secondOf (7, (.if_icmp .ne 7, 10, 0, 0, 14, 0, 0, [])) := ⟨by decide +kernel, rfl, rfl⟩
theorem e_RS_secondOf_10 : okE R_RS 0 b_RS_secondOf (10, (.iconst 0, 11, 0, 0, 0, 0, 0, [])) := ⟨by decide +kernel, rfl, rfl⟩
theorem e_RS_secondOf_11 : okE R_RS 0 b_RS_secondOf (11, (.goto 4, 14, 0, 0, 15, 0, 0, [])) := ⟨by decide +kernel, rfl, rfl⟩
theorem e_RS_secondOf_14 : okE R_RS 0 b_RS_secondOf (14, (.iload_n 2, 15, 0, 0, 2, 0, 0, [])) := ⟨by decide +kernel, rfl, rfl⟩
theorem e_RS_secondOf_15 : okE R_RS 0 b_RS_secondOf (15, (.ireturn, 16, 0, 0, 0, 0, 0, [])) := ⟨by decide +kernel, rfl, trivial⟩
def k_RS_secondOf : List (Nat × En) := [(0, (.aload_n 0, 1, 0, 0, 0, 0, 0, [])), (1, (.getfield 9, 4, 0, 0, 2, 0, 2, [])), (4, (.iload_n 1, 5, 0, 0, 1, 0, 0, [])), (5, (.iaload, 6, 0, 0, 0, 0, 0, [])), (6, (.iconst 1, 7, 1, 0, 0, 0, 0, [])), (7, (.if_icmp .ne 7, 10, 0, 0, 14, 0, 0, [])), (10, (.iconst 0, 11, 0, 0, 0, 0, 0, [])), (11, (.goto 4, 14, 0, 0, 15, 0, 0, [])), (14, (.iload_n 2, 15, 0, 0, 2, 0, 0, [])), (15, (.ireturn, 16, 0, 0, 0, 0, 0, []))]
set_option maxRecDepth 100000 in
theorem ok_RS_secondOf : ∀ x ∈ k_RS_secondOf, okE R_RS 0 b_RS_secondOf x := fc e_RS_secondOf_0 (fc e_RS_secondOf_1 (fc e_RS_secondOf_4 (fc e_RS_secondOf_5 (fc e_RS_secondOf_6 (fc e_RS_secondOf_7 (fc e_RS_secondOf_10 (fc e_RS_secondOf_11 (fc e_RS_secondOf_14 (fc e_RS_secondOf_15 (fun _ h => absurd h List.not_mem_nil))))))))))
theorem rt_RS_secondOf : ∀ x ∈ k_RS_secondOf, okR 0 x.2.1 = true := by decide +kernel
theorem e_RS_isFact_0 : okE R_RS 0 b_RS_isFact (0, (.aload_n 0, 1, 0, 0, 0, 0, 0, [])) := ⟨by decide +kernel, rfl, rfl⟩
theorem e_RS_isFact_1 : okE R_RS 0 b_RS_isFact (1, (.getfield 15, 4, 0, 0, 2, 1, 2, [])) := ⟨by decide +kernel, rfl, ⟨_, _, _, rfl, by decide, wf_RS_15, rfl, rfl⟩⟩
theorem e_RS_isFact_4 : okE R_RS 0 b_RS_isFact (4, (.iload_n 1, 5, 0, 0, 1, 0, 0, [])) := ⟨by decide +kernel, rfl, rfl⟩
theorem e_RS_isFact_5 : okE R_RS 0 b_RS_isFact (5, (.laload, 6, 0, 0, 0, 0, 0, [])) := ⟨by decide +kernel, rfl, trivial⟩
theorem e_RS_isFact_6 : okE R_RS 0 b_RS_isFact (6, (.iload_n 2, 7, 0, 0, 2, 0, 0, [])) := ⟨by decide +kernel, rfl, rfl⟩
theorem e_RS_isFact_7 : okE R_RS 0 b_RS_isFact (7, (.lushr, 8, 0, 0, 0, 0, 0, [])) := ⟨by decide +kernel, rfl, trivial⟩
theorem e_RS_isFact_8 : okE R_RS 0 b_RS_isFact (8, (.lconst 1, 9, 0, 1, 0, 0, 0, [])) := ⟨by decide +kernel, rfl, rfl⟩
theorem e_RS_isFact_9 : okE R_RS 0 b_RS_isFact (9, (.land, 10, 0, 0, 0, 0, 0, [])) := ⟨by decide +kernel, rfl, trivial⟩
theorem e_RS_isFact_10 : okE R_RS 0 b_RS_isFact (10, (.lconst 0, 11, 0, 0, 0, 0, 0, [])) := ⟨by decide +kernel, rfl, rfl⟩
theorem e_RS_isFact_11 : okE R_RS 0 b_RS_isFact (11, (.lcmp, 12, 0, 0, 0, 0, 0, [])) := ⟨by decide +kernel, rfl, trivial⟩
theorem e_RS_isFact_12 : okE R_RS 0 b_RS_isFact (12, (.ifCond .eq 7, 15, 0, 0, 19, 0, 0, [])) := ⟨by decide +kernel, rfl, rfl⟩
theorem e_RS_isFact_15 : okE R_RS 0 b_RS_isFact (15, (.iconst 1, 16, 1, 0, 0, 0, 0, [])) := ⟨by decide +kernel, rfl, rfl⟩
theorem e_RS_isFact_16 : okE R_RS 0 b_RS_isFact (16, (.goto 4, 19, 0, 0, 20, 0, 0, [])) := ⟨by decide +kernel, rfl, rfl⟩
theorem e_RS_isFact_19 : okE R_RS 0 b_RS_isFact (19, (.iconst 0, 20, 0, 0, 0, 0, 0, [])) := ⟨by decide +kernel, rfl, rfl⟩
theorem e_RS_isFact_20 : okE R_RS 0 b_RS_isFact (20, (.ireturn, 21, 0, 0, 0, 0, 0, [])) := ⟨by decide +kernel, rfl, trivial⟩
def k_RS_isFact : List (Nat × En) := [(0, (.aload_n 0, 1, 0, 0, 0, 0, 0, [])), (1, (.getfield 15, 4, 0, 0, 2, 1, 2, [])), (4, (.iload_n 1, 5, 0, 0, 1, 0, 0, [])), (5, (.laload, 6, 0, 0, 0, 0, 0, [])), (6, (.iload_n 2, 7, 0, 0, 2, 0, 0, [])), (7, (.lushr, 8, 0, 0, 0, 0, 0, [])), (8, (.lconst 1, 9, 0, 1, 0, 0, 0, [])), (9, (.land, 10, 0, 0, 0, 0, 0, [])), (10, (.lconst 0, 11, 0, 0, 0, 0, 0, [])), (11, (.lcmp, 12, 0, 0, 0, 0, 0, [])), (12, (.ifCond .eq 7, 15, 0, 0, 19, 0, 0, [])), (15, (.iconst 1, 16, 1, 0, 0, 0, 0, [])), (16, (.goto 4, 19, 0, 0, 20, 0, 0, [])), (19, (.iconst 0, 20, 0, 0, 0, 0, 0, [])), (20, (.ireturn, 21, 0, 0, 0, 0, 0, []))]
set_option maxRecDepth 100000 in
theorem ok_RS_isFact : ∀ x ∈ k_RS_isFact, okE R_RS 0 b_RS_isFact x := fc e_RS_isFact_0 (fc e_RS_isFact_1 (fc e_RS_isFact_4 (fc e_RS_isFact_5 (fc e_RS_isFact_6 (fc e_RS_isFact_7 (fc e_RS_isFact_8 (fc e_RS_isFact_9 (fc e_RS_isFact_10 (fc e_RS_isFact_11 (fc e_RS_isFact_12 (fc e_RS_isFact_15 (fc e_RS_isFact_16 (fc e_RS_isFact_19 (fc e_RS_isFact_20 (fun _ h => absurd h List.not_mem_nil)))))))))))))))
theorem rt_RS_isFact : ∀ x ∈ k_RS_isFact, okR 1 x.2.1 = true := by decide +kernel
theorem e_RS_turnFact_0 : okE R_RS 0 b_RS_turnFact (0, (.aload_n 0, 1, 0, 0, 0, 0, 0, [])) := ⟨by decide +kernel, rfl, rfl⟩
theorem e_RS_turnFact_1 : okE R_RS 0 b_RS_turnFact (1, (.getfield 15, 4, 0, 0, 2, 1, 2, [])) := ⟨by decide +kernel, rfl, ⟨_, _, _, rfl, by decide, wf_RS_15, rfl, rfl⟩⟩
theorem e_RS_turnFact_4 : okE R_RS 0 b_RS_turnFact (4, (.iload_n 1, 5, 0, 0, 1, 0, 0, [])) := ⟨by decide +kernel, rfl, rfl⟩
theorem e_RS_turnFact_5 : okE R_RS 0 b_RS_turnFact (5, (.dup2, 6, 0, 0, 0, 0, 0, [])) := ⟨by decide +kernel, rfl, trivial⟩
theorem e_RS_turnFact_6 : okE R_RS 0 b_RS_turnFact (6, (.laload, 7, 0, 0, 0, 0, 0, [])) := ⟨by decide +kernel, rfl, trivial⟩
theorem e_RS_turnFact_7 : okE R_RS 0 b_RS_turnFact (7, (.lconst 1, 8, 0, 1, 0, 0, 0, [])) := ⟨by decide +kernel, rfl, rfl⟩
theorem e_RS_turnFact_8 : okE R_RS 0 b_RS_turnFact (8, (.iload_n 2, 9, 0, 0, 2, 0, 0, [])) := ⟨by decide +kernel, rfl, rfl⟩
theorem e_RS_turnFact_9 : okE R_RS 0 b_RS_turnFact (9, (.lshl, 10, 0, 0, 0, 0, 0, [])) := ⟨by decide +kernel, rfl, trivial⟩
theorem e_RS_turnFact_10 : okE R_RS 0 b_RS_turnFact (10, (.lxor, 11, 0, 0, 0, 0, 0, [])) := ⟨by decide +kernel, rfl, trivial⟩
theorem e_RS_turnFact_11 : okE R_RS 0 b_RS_turnFact (11, (.lastore, 12, 0, 0, 0, 0, 0, [])) := ⟨by decide +kernel, rfl, trivial⟩
theorem e_RS_turnFact_12 : okE R_RS 0 b_RS_turnFact (12, (.return_, 13, 0, 0, 0, 0, 0, [])) := ⟨by decide +kernel, rfl, trivial⟩
def k_RS_turnFact : List (Nat × En) := [(0, (.aload_n 0, 1, 0, 0, 0, 0, 0, [])), (1, (.getfield 15, 4, 0, 0, 2, 1, 2, [])), (4, (.iload_n 1, 5, 0, 0, 1, 0, 0, [])), (5, (.dup2, 6, 0, 0, 0, 0, 0, [])), (6, (.laload, 7, 0, 0, 0, 0, 0, [])), (7, (.lconst 1, 8, 0, 1, 0, 0, 0, [])), (8, (.iload_n 2, 9, 0, 0, 2, 0, 0, [])), (9, (.lshl, 10, 0, 0, 0, 0, 0, [])), (10, (.lxor, 11, 0, 0, 0, 0, 0, [])), (11, (.lastore, 12, 0, 0, 0, 0, 0, [])), (12, (.return_, 13, 0, 0, 0, 0, 0, []))]
set_option maxRecDepth 100000 in
theorem ok_RS_turnFact : ∀ x ∈ k_RS_turnFact, okE R_RS 0 b_RS_turnFact x := fc e_RS_turnFact_0 (fc e_RS_turnFact_1 (fc e_RS_turnFact_4 (fc e_RS_turnFact_5 (fc e_RS_turnFact_6 (fc e_RS_turnFact_7 (fc e_RS_turnFact_8 (fc e_RS_turnFact_9 (fc e_RS_turnFact_10 (fc e_RS_turnFact_11 (fc e_RS_turnFact_12 (fun _ h => absurd h List.not_mem_nil)))))))))))
theorem rt_RS_turnFact : ∀ x ∈ k_RS_turnFact, okR 3 x.2.1 = true := by decide +kernel
theorem e_RS_remember_0 : okE R_RS 0 b_RS_remember (0, (.aload_n 0, 1, 0, 0, 0, 0, 0, [])) := ⟨by decide +kernel, rfl, rfl⟩
theorem e_RS_remember_1 : okE R_RS 0 b_RS_remember (1, (.getfield 19, 4, 0, 0, 2, 2, 2, [])) := ⟨by decide +kernel, rfl, ⟨_, _, _, rfl, by decide, wf_RS_19, rfl, rfl⟩⟩
theorem e_RS_remember_4 : okE R_RS 0 b_RS_remember (4, (.iconst 0, 5, 0, 0, 0, 0, 0, [])) := ⟨by decide +kernel, rfl, rfl⟩
theorem e_RS_remember_5 : okE R_RS 0 b_RS_remember (5, (.aload_n 0, 6, 0, 0, 0, 0, 0, [])) := ⟨by decide +kernel, rfl, rfl⟩
theorem e_RS_remember_6 : okE R_RS 0 b_RS_remember (6, (.getfield 22, 9, 0, 0, 2, 3, 2, [])) := ⟨by decide +kernel, rfl, ⟨_, _, _, rfl, by decide, wf_RS_22, rfl, rfl⟩⟩
theorem e_RS_remember_9 : okE R_RS 0 b_RS_remember (9, (.iconst 0, 10, 0, 0, 0, 0, 0, [])) := ⟨by decide +kernel, rfl, rfl⟩
theorem e_RS_remember_10 : okE R_RS 0 b_RS_remember (10, (.bipush 14, 12, 14, 0, 0, 0, 0, [])) := ⟨by decide +kernel, rfl, rfl⟩
theorem e_RS_remember_12 : okE R_RS 0 b_RS_remember (12, (.invokestatic 53, 15, 0, 0, 0, 0, 0, [])) := ⟨by decide +kernel, rfl, trivial⟩
theorem e_RS_remember_15 : okE R_RS 0 b_RS_remember (15, (.return_, 16, 0, 0, 0, 0, 0, [])) := ⟨by decide +kernel, rfl, trivial⟩
def k_RS_remember : List (Nat × En) := [(0, (.aload_n 0, 1, 0, 0, 0, 0, 0, [])), (1, (.getfield 19, 4, 0, 0, 2, 2, 2, [])), (4, (.iconst 0, 5, 0, 0, 0, 0, 0, [])), (5, (.aload_n 0, 6, 0, 0, 0, 0, 0, [])), (6, (.getfield 22, 9, 0, 0, 2, 3, 2, [])), (9, (.iconst 0, 10, 0, 0, 0, 0, 0, [])), (10, (.bipush 14, 12, 14, 0, 0, 0, 0, [])), (12, (.invokestatic 53, 15, 0, 0, 0, 0, 0, [])), (15, (.return_, 16, 0, 0, 0, 0, 0, []))]
set_option maxRecDepth 100000 in
theorem ok_RS_remember : ∀ x ∈ k_RS_remember, okE R_RS 0 b_RS_remember x := fc e_RS_remember_0 (fc e_RS_remember_1 (fc e_RS_remember_4 (fc e_RS_remember_5 (fc e_RS_remember_6 (fc e_RS_remember_9 (fc e_RS_remember_10 (fc e_RS_remember_12 (fc e_RS_remember_15 (fun _ h => absurd h List.not_mem_nil)))))))))
theorem rt_RS_remember : ∀ x ∈ k_RS_remember, okR 3 x.2.1 = true := by decide +kernel
theorem e_RS_returnToFacts_0 : okE R_RS 0 b_RS_returnToFacts (0, (.iconst 0, 1, 0, 0, 0, 0, 0, [])) := ⟨by decide +kernel, rfl, rfl⟩
theorem e_RS_returnToFacts_1 : okE R_RS 0 b_RS_returnToFacts (1, (.istore_n 2, 2, 0, 0, 2, 0, 0, [])) := ⟨by decide +kernel, rfl, rfl⟩
theorem e_RS_returnToFacts_2 : okE R_RS 0 b_RS_returnToFacts (2, (.iload_n 2, 3, 0, 0, 2, 0, 0, [])) := ⟨by decide +kernel, rfl, rfl⟩
theorem e_RS_returnToFacts_3 : okE R_RS 0 b_RS_returnToFacts (3, (.bipush 14, 5, 14, 0, 0, 0, 0, [])) := ⟨by decide +kernel, rfl, rfl⟩
theorem e_RS_returnToFacts_5 : okE R_RS 0 b_RS_returnToFacts (5, (.if_icmp .ge 29, 8, 0, 0, 34, 0, 0, [])) := ⟨by decide +kernel, rfl, rfl⟩
theorem e_RS_returnToFacts_8 : okE R_RS 0 b_RS_returnToFacts (8, (.iload_n 2, 9, 0, 0, 2, 0, 0, [])) := ⟨by decide +kernel, rfl, rfl⟩
theorem e_RS_returnToFacts_9 : okE R_RS 0 b_RS_returnToFacts (9, (.iload_n 1, 10, 0, 0, 1, 0, 0, [])) := ⟨by decide +kernel, rfl, rfl⟩
theorem e_RS_returnToFacts_10 : okE R_RS 0 b_RS_returnToFacts (10, (.invokestatic 59, 13, 0, 0, 0, 0, 0, [])) := ⟨by decide +kernel, rfl, trivial⟩
theorem e_RS_returnToFacts_13 : okE R_RS 0 b_RS_returnToFacts (13, (.ifCond .eq 15, 16, 0, 0, 28, 0, 0, [])) := ⟨by decide +kernel, rfl, rfl⟩
theorem e_RS_returnToFacts_16 : okE R_RS 0 b_RS_returnToFacts (16, (.aload_n 0, 17, 0, 0, 0, 0, 0, [])) := ⟨by decide +kernel, rfl, rfl⟩
theorem e_RS_returnToFacts_17 : okE R_RS 0 b_RS_returnToFacts (17, (.getfield 19, 20, 0, 0, 2, 2, 2, [])) := ⟨by decide +kernel, rfl, ⟨_, _, _, rfl, by decide, wf_RS_19, rfl, rfl⟩⟩
theorem e_RS_returnToFacts_20 : okE R_RS 0 b_RS_returnToFacts (20, (.iload_n 2, 21, 0, 0, 2, 0, 0, [])) := ⟨by decide +kernel, rfl, rfl⟩
theorem e_RS_returnToFacts_21 : okE R_RS 0 b_RS_returnToFacts (21, (.aload_n 0, 22, 0, 0, 0, 0, 0, [])) := ⟨by decide +kernel, rfl, rfl⟩
theorem e_RS_returnToFacts_22 : okE R_RS 0 b_RS_returnToFacts (22, (.getfield 15, 25, 0, 0, 2, 1, 2, [])) := ⟨by decide +kernel, rfl, ⟨_, _, _, rfl, by decide, wf_RS_15, rfl, rfl⟩⟩
theorem e_RS_returnToFacts_25 : okE R_RS 0 b_RS_returnToFacts (25, (.iload_n 2, 26, 0, 0, 2, 0, 0, [])) := ⟨by decide +kernel, rfl, rfl⟩
theorem e_RS_returnToFacts_26 : okE R_RS 0 b_RS_returnToFacts (26, (.laload, 27, 0, 0, 0, 0, 0, [])) := ⟨by decide +kernel, rfl, trivial⟩
theorem e_RS_returnToFacts_27 : okE R_RS 0 b_RS_returnToFacts (27, (.lastore, 28, 0, 0, 0, 0, 0, [])) := ⟨by decide +kernel, rfl, trivial⟩
theorem e_RS_returnToFacts_28 : okE R_RS 0 b_RS_returnToFacts (28, (.iinc 2 1, 31, 1, 0, 2, 0, 0, [])) := ⟨by decide +kernel, rfl, ⟨rfl, rfl⟩⟩
theorem e_RS_returnToFacts_31 : okE R_RS 0 b_RS_returnToFacts (31, (.goto (-29), 34, 0, 0, 2, 0, 0, [])) := ⟨by decide +kernel, rfl, rfl⟩
theorem e_RS_returnToFacts_34 : okE R_RS 0 b_RS_returnToFacts (34, (.return_, 35, 0, 0, 0, 0, 0, [])) := ⟨by decide +kernel, rfl, trivial⟩
def k_RS_returnToFacts : List (Nat × En) := [(0, (.iconst 0, 1, 0, 0, 0, 0, 0, [])), (1, (.istore_n 2, 2, 0, 0, 2, 0, 0, [])), (2, (.iload_n 2, 3, 0, 0, 2, 0, 0, [])), (3, (.bipush 14, 5, 14, 0, 0, 0, 0, [])), (5, (.if_icmp .ge 29, 8, 0, 0, 34, 0, 0, [])), (8, (.iload_n 2, 9, 0, 0, 2, 0, 0, [])), (9, (.iload_n 1, 10, 0, 0, 1, 0, 0, [])), (10, (.invokestatic 59, 13, 0, 0, 0, 0, 0, [])), (13, (.ifCond .eq 15, 16, 0, 0, 28, 0, 0, [])), (16, (.aload_n 0, 17, 0, 0, 0, 0, 0, [])), (17, (.getfield 19, 20, 0, 0, 2, 2, 2, [])), (20, (.iload_n 2, 21, 0, 0, 2, 0, 0, [])), (21, (.aload_n 0, 22, 0, 0, 0, 0, 0, [])), (22, (.getfield 15, 25, 0, 0, 2, 1, 2, [])), (25, (.iload_n 2, 26, 0, 0, 2, 0, 0, [])), (26, (.laload, 27, 0, 0, 0, 0, 0, [])), (27, (.lastore, 28, 0, 0, 0, 0, 0, [])), (28, (.iinc 2 1, 31, 1, 0, 2, 0, 0, [])), (31, (.goto (-29), 34, 0, 0, 2, 0, 0, [])), (34, (.return_, 35, 0, 0, 0, 0, 0, []))]
set_option maxRecDepth 100000 in
theorem ok_RS_returnToFacts : ∀ x ∈ k_RS_returnToFacts, okE R_RS 0 b_RS_returnToFacts x := fc e_RS_returnToFacts_0 (fc e_RS_returnToFacts_1 (fc e_RS_returnToFacts_2 (fc e_RS_returnToFacts_3 (fc e_RS_returnToFacts_5 (fc e_RS_returnToFacts_8 (fc e_RS_returnToFacts_9 (fc e_RS_returnToFacts_10 (fc e_RS_returnToFacts_13 (fc e_RS_returnToFacts_16 (fc e_RS_returnToFacts_17 (fc e_RS_returnToFacts_20 (fc e_RS_returnToFacts_21 (fc e_RS_returnToFacts_22 (fc e_RS_returnToFacts_25 (fc e_RS_returnToFacts_26 (fc e_RS_returnToFacts_27 (fc e_RS_returnToFacts_28 (fc e_RS_returnToFacts_31 (fc e_RS_returnToFacts_34 (fun _ h => absurd h List.not_mem_nil))))))))))))))))))))
theorem rt_RS_returnToFacts : ∀ x ∈ k_RS_returnToFacts, okR 3 x.2.1 = true := by decide +kernel
theorem e_RS_countChanges_0 : okE R_RS 0 b_RS_countChanges (0, (.iconst 0, 1, 0, 0, 0, 0, 0, [])) := ⟨by decide +kernel, rfl, rfl⟩
theorem e_RS_countChanges_1 : okE R_RS 0 b_RS_countChanges (1, (.istore_n 1, 2, 0, 0, 1, 0, 0, [])) := ⟨by decide +kernel, rfl, rfl⟩
theorem e_RS_countChanges_2 : okE R_RS 0 b_RS_countChanges (2, (.iconst 0, 3, 0, 0, 0, 0, 0, [])) := ⟨by decide +kernel, rfl, rfl⟩
theorem e_RS_countChanges_3 : okE R_RS 0 b_RS_countChanges (3, (.istore_n 2, 4, 0, 0, 2, 0, 0, [])) := ⟨by decide +kernel, rfl, rfl⟩
theorem e_RS_countChanges_4 : okE R_RS 0 b_RS_countChanges (4, (.iload_n 2, 5, 0, 0, 2, 0, 0, [])) := ⟨by decide +kernel, rfl, rfl⟩
theorem e_RS_countChanges_5 : okE R_RS 0 b_RS_countChanges (5, (.bipush 14, 7, 14, 0, 0, 0, 0, [])) := ⟨by decide +kernel, rfl, rfl⟩
theorem e_RS_countChanges_7 : okE R_RS 0 b_RS_countChanges (7, (.if_icmp .ge 28, 10, 0, 0, 35, 0, 0, [])) := ⟨by decide +kernel, rfl, rfl⟩
theorem e_RS_countChanges_10 : okE R_RS 0 b_RS_countChanges (10, (.iload_n 1, 11, 0, 0, 1, 0, 0, [])) := ⟨by decide +kernel, rfl, rfl⟩
theorem e_RS_countChanges_11 : okE R_RS 0 b_RS_countChanges (11, (.aload_n 0, 12, 0, 0, 0, 0, 0, [])) := ⟨by decide +kernel, rfl, rfl⟩
theorem e_RS_countChanges_12 : okE R_RS 0 b_RS_countChanges (12, (.getfield 22, 15, 0, 0, 2, 3, 2, [])) := ⟨by decide +kernel, rfl, ⟨_, _, _, rfl, by decide, wf_RS_22, rfl, rfl⟩⟩
theorem e_RS_countChanges_15 : okE R_RS 0 b_RS_countChanges (15, (.iload_n 2, 16, 0, 0, 2, 0, 0, [])) := ⟨by decide +kernel, rfl, rfl⟩
theorem e_RS_countChanges_16 : okE R_RS 0 b_RS_countChanges (16, (.laload, 17, 0, 0, 0, 0, 0, [])) := ⟨by decide +kernel, rfl, trivial⟩
theorem e_RS_countChanges_17 : okE R_RS 0 b_RS_countChanges (17, (.aload_n 0, 18, 0, 0, 0, 0, 0, [])) := ⟨by decide +kernel, rfl, rfl⟩
theorem e_RS_countChanges_18 : okE R_RS 0 b_RS_countChanges (18, (.getfield 19, 21, 0, 0, 2, 2, 2, [])) := ⟨by decide +kernel, rfl, ⟨_, _, _, rfl, by decide, wf_RS_19, rfl, rfl⟩⟩
theorem e_RS_countChanges_21 : okE R_RS 0 b_RS_countChanges (21, (.iload_n 2, 22, 0, 0, 2, 0, 0, [])) := ⟨by decide +kernel, rfl, rfl⟩
theorem e_RS_countChanges_22 : okE R_RS 0 b_RS_countChanges (22, (.laload, 23, 0, 0, 0, 0, 0, [])) := ⟨by decide +kernel, rfl, trivial⟩
theorem e_RS_countChanges_23 : okE R_RS 0 b_RS_countChanges (23, (.lxor, 24, 0, 0, 0, 0, 0, [])) := ⟨by decide +kernel, rfl, trivial⟩
theorem e_RS_countChanges_24 : okE R_RS 0 b_RS_countChanges (24, (.invokestatic 62, 27, 0, 0, 0, 0, 0, [])) := ⟨by decide +kernel, rfl, trivial⟩
theorem e_RS_countChanges_27 : okE R_RS 0 b_RS_countChanges (27, (.iadd, 28, 0, 0, 0, 0, 0, [])) := ⟨by decide +kernel, rfl, trivial⟩
theorem e_RS_countChanges_28 : okE R_RS 0 b_RS_countChanges (28, (.istore_n 1, 29, 0, 0, 1, 0, 0, [])) := ⟨by decide +kernel, rfl, rfl⟩
theorem e_RS_countChanges_29 : okE R_RS 0 b_RS_countChanges (29, (.iinc 2 1, 32, 1, 0, 2, 0, 0, [])) := ⟨by decide +kernel, rfl, ⟨rfl, rfl⟩⟩
theorem e_RS_countChanges_32 : okE R_RS 0 b_RS_countChanges (32, (.goto (-28), 35, 0, 0, 4, 0, 0, [])) := ⟨by decide +kernel, rfl, rfl⟩
theorem e_RS_countChanges_35 : okE R_RS 0 b_RS_countChanges (35, (.iload_n 1, 36, 0, 0, 1, 0, 0, [])) := ⟨by decide +kernel, rfl, rfl⟩
theorem e_RS_countChanges_36 : okE R_RS 0 b_RS_countChanges (36, (.ireturn, 37, 0, 0, 0, 0, 0, [])) := ⟨by decide +kernel, rfl, trivial⟩
def k_RS_countChanges : List (Nat × En) := [(0, (.iconst 0, 1, 0, 0, 0, 0, 0, [])), (1, (.istore_n 1, 2, 0, 0, 1, 0, 0, [])), (2, (.iconst 0, 3, 0, 0, 0, 0, 0, [])), (3, (.istore_n 2, 4, 0, 0, 2, 0, 0, [])), (4, (.iload_n 2, 5, 0, 0, 2, 0, 0, [])), (5, (.bipush 14, 7, 14, 0, 0, 0, 0, [])), (7, (.if_icmp .ge 28, 10, 0, 0, 35, 0, 0, [])), (10, (.iload_n 1, 11, 0, 0, 1, 0, 0, [])), (11, (.aload_n 0, 12, 0, 0, 0, 0, 0, [])), (12, (.getfield 22, 15, 0, 0, 2, 3, 2, [])), (15, (.iload_n 2, 16, 0, 0, 2, 0, 0, [])), (16, (.laload, 17, 0, 0, 0, 0, 0, [])), (17, (.aload_n 0, 18, 0, 0, 0, 0, 0, [])), (18, (.getfield 19, 21, 0, 0, 2, 2, 2, [])), (21, (.iload_n 2, 22, 0, 0, 2, 0, 0, [])), (22, (.laload, 23, 0, 0, 0, 0, 0, [])), (23, (.lxor, 24, 0, 0, 0, 0, 0, [])), (24, (.invokestatic 62, 27, 0, 0, 0, 0, 0, [])), (27, (.iadd, 28, 0, 0, 0, 0, 0, [])), (28, (.istore_n 1, 29, 0, 0, 1, 0, 0, [])), (29, (.iinc 2 1, 32, 1, 0, 2, 0, 0, [])), (32, (.goto (-28), 35, 0, 0, 4, 0, 0, [])), (35, (.iload_n 1, 36, 0, 0, 1, 0, 0, [])), (36, (.ireturn, 37, 0, 0, 0, 0, 0, []))]
set_option maxRecDepth 100000 in
theorem ok_RS_countChanges : ∀ x ∈ k_RS_countChanges, okE R_RS 0 b_RS_countChanges x := fc e_RS_countChanges_0 (fc e_RS_countChanges_1 (fc e_RS_countChanges_2 (fc e_RS_countChanges_3 (fc e_RS_countChanges_4 (fc e_RS_countChanges_5 (fc e_RS_countChanges_7 (fc e_RS_countChanges_10 (fc e_RS_countChanges_11 (fc e_RS_countChanges_12 (fc e_RS_countChanges_15 (fc e_RS_countChanges_16 (fc e_RS_countChanges_17 (fc e_RS_countChanges_18 (fc e_RS_countChanges_21 (fc e_RS_countChanges_22 (fc e_RS_countChanges_23 (fc e_RS_countChanges_24 (fc e_RS_countChanges_27 (fc e_RS_countChanges_28 (fc e_RS_countChanges_29 (fc e_RS_countChanges_32 (fc e_RS_countChanges_35 (fc e_RS_countChanges_36 (fun _ h => absurd h List.not_mem_nil))))))))))))))))))))))))
theorem rt_RS_countChanges : ∀ x ∈ k_RS_countChanges, okR 0 x.2.1 = true := by decide +kernel
theorem e_RS_has_0 : okE R_RS 0 b_RS_has (0, (.aload_n 0, 1, 0, 0, 0, 0, 0, [])) := ⟨by decide +kernel, rfl, rfl⟩
theorem e_RS_has_1 : okE R_RS 0 b_RS_has (1, (.getfield 19, 4, 0, 0, 2, 2, 2, [])) := ⟨by decide +kernel, rfl, ⟨_, _, _, rfl, by decide, wf_RS_19, rfl, rfl⟩⟩
theorem e_RS_has_4 : okE R_RS 0 b_RS_has (4, (.iload_n 1, 5, 0, 0, 1, 0, 0, [])) := ⟨by decide +kernel, rfl, rfl⟩
theorem e_RS_has_5 : okE R_RS 0 b_RS_has (5, (.laload, 6, 0, 0, 0, 0, 0, [])) := ⟨by decide +kernel, rfl, trivial⟩
theorem e_RS_has_6 : okE R_RS 0 b_RS_has (6, (.iload_n 2, 7, 0, 0, 2, 0, 0, [])) := ⟨by decide +kernel, rfl, rfl⟩
theorem e_RS_has_7 : okE R_RS 0 b_RS_has (7, (.lushr, 8, 0, 0, 0, 0, 0, [])) := ⟨by decide +kernel, rfl, trivial⟩
theorem e_RS_has_8 : okE R_RS 0 b_RS_has (8, (.lconst 1, 9, 0, 1, 0, 0, 0, [])) := ⟨by decide +kernel, rfl, rfl⟩
theorem e_RS_has_9 : okE R_RS 0 b_RS_has (9, (.land, 10, 0, 0, 0, 0, 0, [])) := ⟨by decide +kernel, rfl, trivial⟩
theorem e_RS_has_10 : okE R_RS 0 b_RS_has (10, (.lconst 0, 11, 0, 0, 0, 0, 0, [])) := ⟨by decide +kernel, rfl, rfl⟩
theorem e_RS_has_11 : okE R_RS 0 b_RS_has (11, (.lcmp, 12, 0, 0, 0, 0, 0, [])) := ⟨by decide +kernel, rfl, trivial⟩
theorem e_RS_has_12 : okE R_RS 0 b_RS_has (12, (.ifCond .eq 7, 15, 0, 0, 19, 0, 0, [])) := ⟨by decide +kernel, rfl, rfl⟩
theorem e_RS_has_15 : okE R_RS 0 b_RS_has (15, (.iconst 1, 16, 1, 0, 0, 0, 0, [])) := ⟨by decide +kernel, rfl, rfl⟩
theorem e_RS_has_16 : okE R_RS 0 b_RS_has (16, (.goto 4, 19, 0, 0, 20, 0, 0, [])) := ⟨by decide +kernel, rfl, rfl⟩
theorem e_RS_has_19 : okE R_RS 0 b_RS_has (19, (.iconst 0, 20, 0, 0, 0, 0, 0, [])) := ⟨by decide +kernel, rfl, rfl⟩
theorem e_RS_has_20 : okE R_RS 0 b_RS_has (20, (.ireturn, 21, 0, 0, 0, 0, 0, [])) := ⟨by decide +kernel, rfl, trivial⟩
def k_RS_has : List (Nat × En) := [(0, (.aload_n 0, 1, 0, 0, 0, 0, 0, [])), (1, (.getfield 19, 4, 0, 0, 2, 2, 2, [])), (4, (.iload_n 1, 5, 0, 0, 1, 0, 0, [])), (5, (.laload, 6, 0, 0, 0, 0, 0, [])), (6, (.iload_n 2, 7, 0, 0, 2, 0, 0, [])), (7, (.lushr, 8, 0, 0, 0, 0, 0, [])), (8, (.lconst 1, 9, 0, 1, 0, 0, 0, [])), (9, (.land, 10, 0, 0, 0, 0, 0, [])), (10, (.lconst 0, 11, 0, 0, 0, 0, 0, [])), (11, (.lcmp, 12, 0, 0, 0, 0, 0, [])), (12, (.ifCond .eq 7, 15, 0, 0, 19, 0, 0, [])), (15, (.iconst 1, 16, 1, 0, 0, 0, 0, [])), (16, (.goto 4, 19, 0, 0, 20, 0, 0, [])), (19, (.iconst 0, 20, 0, 0, 0, 0, 0, [])), (20, (.ireturn, 21, 0, 0, 0, 0, 0, []))]
set_option maxRecDepth 100000 in
theorem ok_RS_has : ∀ x ∈ k_RS_has, okE R_RS 0 b_RS_has x := fc e_RS_has_0 (fc e_RS_has_1 (fc e_RS_has_4 (fc e_RS_has_5 (fc e_RS_has_6 (fc e_RS_has_7 (fc e_RS_has_8 (fc e_RS_has_9 (fc e_RS_has_10 (fc e_RS_has_11 (fc e_RS_has_12 (fc e_RS_has_15 (fc e_RS_has_16 (fc e_RS_has_19 (fc e_RS_has_20 (fun _ h => absurd h List.not_mem_nil)))))))))))))))
theorem rt_RS_has : ∀ x ∈ k_RS_has, okR 1 x.2.1 = true := by decide +kernel
theorem e_RS_cellAt_0 : okE R_RS 0 b_RS_cellAt (0, (.iload_n 2, 1, 0, 0, 2, 0, 0, [])) := ⟨by decide +kernel, rfl, rfl⟩
theorem e_RS_cellAt_1 : okE R_RS 0 b_RS_cellAt (1, (.istore_n 3, 2, 0, 0, 3, 0, 0, [])) := ⟨by decide +kernel, rfl, rfl⟩
theorem e_RS_cellAt_2 : okE R_RS 0 b_RS_cellAt (2, (.iconst 0, 3, 0, 0, 0, 0, 0, [])) := ⟨by decide +kernel, rfl, rfl⟩
theorem e_RS_cellAt_3 : okE R_RS 0 b_RS_cellAt (3, (.istore 4, 5, 0, 0, 4, 0, 0, [])) := ⟨by decide +kernel, rfl, rfl⟩
theorem e_RS_cellAt_5 : okE R_RS 0 b_RS_cellAt (5, (.iload 4, 7, 0, 0, 4, 0, 0, [])) := ⟨by decide +kernel, rfl, rfl⟩
theorem e_RS_cellAt_7 : okE R_RS 0 b_RS_cellAt (7, (.bipush 36, 9, 36, 0, 0, 0, 0, [])) := ⟨by decide +kernel, rfl, rfl⟩
theorem e_RS_cellAt_9 : okE R_RS 0 b_RS_cellAt (9, (.if_icmp .ge 29, 12, 0, 0, 38, 0, 0, [])) := ⟨by decide +kernel, rfl, rfl⟩
theorem e_RS_cellAt_12 : okE R_RS 0 b_RS_cellAt (12, (.aload_n 0, 13, 0, 0, 0, 0, 0, [])) := ⟨by decide +kernel, rfl, rfl⟩
theorem e_RS_cellAt_13 : okE R_RS 0 b_RS_cellAt (13, (.iload_n 1, 14, 0, 0, 1, 0, 0, [])) := ⟨by decide +kernel, rfl, rfl⟩
theorem e_RS_cellAt_14 : okE R_RS 0 b_RS_cellAt (14, (.iload 4, 16, 0, 0, 4, 0, 0, [])) := ⟨by decide +kernel, rfl, rfl⟩
theorem e_RS_cellAt_16 : okE R_RS 0 b_RS_cellAt (16, (.invokevirtual 49, 19, 0, 0, 0, 0, 0, [])) := ⟨by decide +kernel, rfl, trivial⟩
theorem e_RS_cellAt_19 : okE R_RS 0 b_RS_cellAt (19, (.ifCond .eq 13, 22, 0, 0, 32, 0, 0, [])) := ⟨by decide +kernel, rfl, rfl⟩
theorem e_RS_cellAt_22 : okE R_RS 0 b_RS_cellAt (22, (.iload_n 3, 23, 0, 0, 3, 0, 0, [])) := ⟨by decide +kernel, rfl, rfl⟩
theorem e_RS_cellAt_23 : okE R_RS 0 b_RS_cellAt (23, (.ifCond .ne 6, 26, 0, 0, 29, 0, 0, [])) := ⟨by decide +kernel, rfl, rfl⟩
theorem e_RS_cellAt_26 : okE R_RS 0 b_RS_cellAt (26, (.iload 4, 28, 0, 0, 4, 0, 0, [])) := ⟨by decide +kernel, rfl, rfl⟩
theorem e_RS_cellAt_28 : okE R_RS 0 b_RS_cellAt (28, (.ireturn, 29, 0, 0, 0, 0, 0, [])) := ⟨by decide +kernel, rfl, trivial⟩
theorem e_RS_cellAt_29 : okE R_RS 0 b_RS_cellAt (29, (.iinc 3 (-1), 32, (-1), 0, 3, 0, 0, [])) := ⟨by decide +kernel, rfl, ⟨rfl, rfl⟩⟩
theorem e_RS_cellAt_32 : okE R_RS 0 b_RS_cellAt (32, (.iinc 4 1, 35, 1, 0, 4, 0, 0, [])) := ⟨by decide +kernel, rfl, ⟨rfl, rfl⟩⟩
theorem e_RS_cellAt_35 : okE R_RS 0 b_RS_cellAt (35, (.goto (-30), 38, 0, 0, 5, 0, 0, [])) := ⟨by decide +kernel, rfl, rfl⟩
theorem e_RS_cellAt_38 : okE R_RS 0 b_RS_cellAt (38, (.iconst (-1), 39, (-1), 0, 0, 0, 0, [])) := ⟨by decide +kernel, rfl, rfl⟩
theorem e_RS_cellAt_39 : okE R_RS 0 b_RS_cellAt (39, (.ireturn, 40, 0, 0, 0, 0, 0, [])) := ⟨by decide +kernel, rfl, trivial⟩
def k_RS_cellAt : List (Nat × En) := [(0, (.iload_n 2, 1, 0, 0, 2, 0, 0, [])), (1, (.istore_n 3, 2, 0, 0, 3, 0, 0, [])), (2, (.iconst 0, 3, 0, 0, 0, 0, 0, [])), (3, (.istore 4, 5, 0, 0, 4, 0, 0, [])), (5, (.iload 4, 7, 0, 0, 4, 0, 0, [])), (7, (.bipush 36, 9, 36, 0, 0, 0, 0, [])), (9, (.if_icmp .ge 29, 12, 0, 0, 38, 0, 0, [])), (12, (.aload_n 0, 13, 0, 0, 0, 0, 0, [])), (13, (.iload_n 1, 14, 0, 0, 1, 0, 0, [])), (14, (.iload 4, 16, 0, 0, 4, 0, 0, [])), (16, (.invokevirtual 49, 19, 0, 0, 0, 0, 0, [])), (19, (.ifCond .eq 13, 22, 0, 0, 32, 0, 0, [])), (22, (.iload_n 3, 23, 0, 0, 3, 0, 0, [])), (23, (.ifCond .ne 6, 26, 0, 0, 29, 0, 0, [])), (26, (.iload 4, 28, 0, 0, 4, 0, 0, [])), (28, (.ireturn, 29, 0, 0, 0, 0, 0, [])), (29, (.iinc 3 (-1), 32, (-1), 0, 3, 0, 0, [])), (32, (.iinc 4 1, 35, 1, 0, 4, 0, 0, [])), (35, (.goto (-30), 38, 0, 0, 5, 0, 0, [])), (38, (.iconst (-1), 39, (-1), 0, 0, 0, 0, [])), (39, (.ireturn, 40, 0, 0, 0, 0, 0, []))]
set_option maxRecDepth 100000 in
theorem ok_RS_cellAt : ∀ x ∈ k_RS_cellAt, okE R_RS 0 b_RS_cellAt x := fc e_RS_cellAt_0 (fc e_RS_cellAt_1 (fc e_RS_cellAt_2 (fc e_RS_cellAt_3 (fc e_RS_cellAt_5 (fc e_RS_cellAt_7 (fc e_RS_cellAt_9 (fc e_RS_cellAt_12 (fc e_RS_cellAt_13 (fc e_RS_cellAt_14 (fc e_RS_cellAt_16 (fc e_RS_cellAt_19 (fc e_RS_cellAt_22 (fc e_RS_cellAt_23 (fc e_RS_cellAt_26 (fc e_RS_cellAt_28 (fc e_RS_cellAt_29 (fc e_RS_cellAt_32 (fc e_RS_cellAt_35 (fc e_RS_cellAt_38 (fc e_RS_cellAt_39 (fun _ h => absurd h List.not_mem_nil)))))))))))))))))))))
theorem rt_RS_cellAt : ∀ x ∈ k_RS_cellAt, okR 0 x.2.1 = true := by decide +kernel
