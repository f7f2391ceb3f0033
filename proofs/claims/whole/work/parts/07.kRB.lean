theorem e_RB_init_0 : okE R_RB 1 b_RB_init (0, (.aload_n 0, 1, 0, 0, 0, 0, 0, [])) := ⟨by decide +kernel, rfl, rfl⟩
theorem e_RB_init_1 : okE R_RB 1 b_RB_init (1, (.invokespecial 3, 4, 0, 0, 0, 0, 0, [])) := ⟨by decide +kernel, rfl, trivial⟩
theorem e_RB_init_4 : okE R_RB 1 b_RB_init (4, (.aload_n 0, 5, 0, 0, 0, 0, 0, [])) := ⟨by decide +kernel, rfl, rfl⟩
theorem e_RB_init_5 : okE R_RB 1 b_RB_init (5, (.bipush 14, 7, 14, 0, 0, 0, 0, [])) := ⟨by decide +kernel, rfl, rfl⟩
theorem e_RB_init_7 : okE R_RB 1 b_RB_init (7, (.anewarray 9, 10, 0, 0, 4, 0, 0, [])) := ⟨by decide +kernel, rfl, Or.inr ⟨rfl, wc_RB_9⟩⟩
theorem e_RB_init_10 : okE R_RB 1 b_RB_init (10, (.putfield 11, 13, 0, 0, 3, 0, 2, [])) := ⟨by decide +kernel, rfl, ⟨⟨_, _, _, rfl, by decide, wf_RB_11, rfl, rfl⟩, ⟨_, _, _, rfl, Or.inr ⟨rfl, rfl, rfl⟩, ⟨_, tk_RB.1 0 (by decide), fun a => ⟨rfl, rfl⟩⟩⟩⟩⟩
theorem e_RB_init_13 : okE R_RB 1 b_RB_init (13, (.iconst 0, 14, 0, 0, 0, 0, 0, [])) := ⟨by decide +kernel, rfl, rfl⟩
theorem e_RB_init_14 : okE R_RB 1 b_RB_init (14, (.istore_n 1, 15, 0, 0, 1, 0, 0, [])) := ⟨by decide +kernel, rfl, rfl⟩
theorem e_RB_init_15 : okE R_RB 1 b_RB_init (15, (.iload_n 1, 16, 0, 0, 1, 0, 0, [])) := ⟨by decide +kernel, rfl, rfl⟩
theorem e_RB_init_16 : okE R_RB 1 b_RB_init (16, (.bipush 14, 18, 14, 0, 0, 0, 0, [])) := ⟨by decide +kernel, rfl, rfl⟩
theorem e_RB_init_18 : okE R_RB 1 b_RB_init (18, (.if_icmp .ge 22, 21, 0, 0, 40, 0, 0, [])) := ⟨by decide +kernel, rfl, rfl⟩
theorem e_RB_init_21 : okE R_RB 1 b_RB_init (21, (.aload_n 0, 22, 0, 0, 0, 0, 0, [])) := ⟨by decide +kernel, rfl, rfl⟩
theorem e_RB_init_22 : okE R_RB 1 b_RB_init (22, (.getfield 11, 25, 0, 0, 3, 0, 2, [])) := ⟨by decide +kernel, rfl, ⟨_, _, _, rfl, by decide, wf_RB_11, rfl, rfl⟩⟩
theorem e_RB_init_25 : okE R_RB 1 b_RB_init (25, (.iload_n 1, 26, 0, 0, 1, 0, 0, [])) := ⟨by decide +kernel, rfl, rfl⟩
theorem e_RB_init_26 : okE R_RB 1 b_RB_init (26, (.new 9, 29, 0, 0, 4, 0, 0, [])) := ⟨by decide +kernel, rfl, ⟨_, _, _, rfl, rfl, wc_RB_9, wn_RL, wi_RL⟩⟩
theorem e_RB_init_29 : okE R_RB 1 b_RB_init (29, (.dup, 30, 0, 0, 0, 0, 0, [])) := ⟨by decide +kernel, rfl, trivial⟩
theorem e_RB_init_30 : okE R_RB 1 b_RB_init (30, (.invokespecial 17, 33, 0, 0, 1, 0, 0, [])) := ⟨by decide +kernel, rfl, trivial⟩
theorem e_RB_init_33 : okE R_RB 1 b_RB_init (33, (.aastore, 34, 0, 0, 4, 4, 0, [])) := ⟨by decide +kernel, rfl, ⟨_, rfl, Or.inr ⟨rfl, rfl⟩⟩⟩
theorem e_RB_init_34 : okE R_RB 1 b_RB_init (34, (.iinc 1 1, 37, 1, 0, 1, 0, 0, [])) := ⟨by decide +kernel, rfl, ⟨rfl, rfl⟩⟩
theorem e_RB_init_37 : okE R_RB 1 b_RB_init (37, (.goto (-22), 40, 0, 0, 15, 0, 0, [])) := ⟨by decide +kernel, rfl, rfl⟩
theorem e_RB_init_40 : okE R_RB 1 b_RB_init (40, (.aload_n 0, 41, 0, 0, 0, 0, 0, [])) := ⟨by decide +kernel, rfl, rfl⟩
theorem e_RB_init_41 : okE R_RB 1 b_RB_init (41, (.bipush 14, 43, 14, 0, 0, 0, 0, [])) := ⟨by decide +kernel, rfl, rfl⟩
theorem e_RB_init_43 : okE R_RB 1 b_RB_init (43, (.newarray .int, 45, 0, 0, 0, 0, 0, [])) := ⟨by decide +kernel, rfl, Or.inl ⟨rfl, rfl, wa_int⟩⟩
theorem e_RB_init_45 : okE R_RB 1 b_RB_init (45, (.putfield 18, 48, 0, 0, 3, 1, 2, [])) := ⟨by decide +kernel, rfl, ⟨⟨_, _, _, rfl, by decide, wf_RB_18, rfl, rfl⟩, ⟨_, _, _, rfl, Or.inr ⟨rfl, rfl, rfl⟩, ⟨_, tk_RB.1 1 (by decide), fun a => ⟨rfl, rfl⟩⟩⟩⟩⟩
theorem e_RB_init_48 : okE R_RB 1 b_RB_init (48, (.aload_n 0, 49, 0, 0, 0, 0, 0, [])) := ⟨by decide +kernel, rfl, rfl⟩
theorem e_RB_init_49 : okE R_RB 1 b_RB_init (49, (.bipush 14, 51, 14, 0, 0, 0, 0, [])) := ⟨by decide +kernel, rfl, rfl⟩
theorem e_RB_init_51 : okE R_RB 1 b_RB_init (51, (.newarray .int, 53, 0, 0, 0, 0, 0, [])) := ⟨by decide +kernel, rfl, Or.inl ⟨rfl, rfl, wa_int⟩⟩
theorem e_RB_init_53 : okE R_RB 1 b_RB_init (53, (.putfield 22, 56, 0, 0, 3, 2, 2, [])) := ⟨by decide +kernel, rfl, ⟨⟨_, _, _, rfl, by decide, wf_RB_22, rfl, rfl⟩, ⟨_, _, _, rfl, Or.inr ⟨rfl, rfl, rfl⟩, ⟨_, tk_RB.1 2 (by decide), fun a => ⟨rfl, rfl⟩⟩⟩⟩⟩
theorem e_RB_init_56 : okE R_RB 1 b_RB_init (56, (.aload_n 0, 57, 0, 0, 0, 0, 0, [])) := ⟨by decide +kernel, rfl, rfl⟩
theorem e_RB_init_57 : okE R_RB 1 b_RB_init (57, (.iconst 4, 58, 4, 0, 0, 0, 0, [])) := ⟨by decide +kernel, rfl, rfl⟩
theorem e_RB_init_58 : okE R_RB 1 b_RB_init (58, (.anewarray 25, 61, 0, 0, 3, 0, 0, [])) := ⟨by decide +kernel, rfl, Or.inl ⟨rfl, wc_RB_25⟩⟩
theorem e_RB_init_61 : okE R_RB 1 b_RB_init (61, (.putfield 27, 64, 0, 0, 3, 3, 2, [])) := ⟨by decide +kernel, rfl, ⟨⟨_, _, _, rfl, by decide, wf_RB_27, rfl, rfl⟩, ⟨_, _, _, rfl, Or.inr ⟨rfl, rfl, rfl⟩, ⟨_, tk_RB.1 3 (by decide), fun a => ⟨rfl, rfl⟩⟩⟩⟩⟩
theorem e_RB_init_64 : okE R_RB 1 b_RB_init (64, (.iconst 0, 65, 0, 0, 0, 0, 0, [])) := ⟨by decide +kernel, rfl, rfl⟩
theorem e_RB_init_65 : okE R_RB 1 b_RB_init (65, (.istore_n 1, 66, 0, 0, 1, 0, 0, [])) := ⟨by decide +kernel, rfl, rfl⟩
theorem e_RB_init_66 : okE R_RB 1 b_RB_init (66, (.iload_n 1, 67, 0, 0, 1, 0, 0, [])) := ⟨by decide +kernel, rfl, rfl⟩
theorem e_RB_init_67 : okE R_RB 1 b_RB_init (67, (.iconst 4, 68, 4, 0, 0, 0, 0, [])) := ⟨by decide +kernel, rfl, rfl⟩
theorem e_RB_init_68 : okE R_RB 1 b_RB_init (68, (.if_icmp .ge 22, 71, 0, 0, 90, 0, 0, [])) := ⟨by decide +kernel, rfl, rfl⟩
theorem e_RB_init_71 : okE R_RB 1 b_RB_init (71, (.aload_n 0, 72, 0, 0, 0, 0, 0, [])) := ⟨by decide +kernel, rfl, rfl⟩
theorem e_RB_init_72 : okE R_RB 1 b_RB_init (72, (.getfield 27, 75, 0, 0, 3, 3, 2, [])) := ⟨by decide +kernel, rfl, ⟨_, _, _, rfl, by decide, wf_RB_27, rfl, rfl⟩⟩
theorem e_RB_init_75 : okE R_RB 1 b_RB_init (75, (.iload_n 1, 76, 0, 0, 1, 0, 0, [])) := ⟨by decide +kernel, rfl, rfl⟩
theorem e_RB_init_76 : okE R_RB 1 b_RB_init (76, (.new 25, 79, 0, 0, 5, 0, 0, [])) := ⟨by decide +kernel, rfl, ⟨_, _, _, rfl, rfl, wc_RB_25, wn_LI, wi_LI⟩⟩
theorem e_RB_init_79 : okE R_RB 1 b_RB_init (79, (.dup, 80, 0, 0, 0, 0, 0, [])) := ⟨by decide +kernel, rfl, trivial⟩
theorem e_RB_init_80 : okE R_RB 1 b_RB_init (80, (.invokespecial 31, 83, 0, 0, 2, 0, 0, [])) := ⟨by decide +kernel, rfl, trivial⟩
theorem e_RB_init_83 : okE R_RB 1 b_RB_init (83, (.aastore, 84, 0, 0, 3, 5, 0, [])) := ⟨by decide +kernel, rfl, ⟨_, rfl, Or.inl ⟨rfl, rfl⟩⟩⟩
theorem e_RB_init_84 : okE R_RB 1 b_RB_init (84, (.iinc 1 1, 87, 1, 0, 1, 0, 0, [])) := ⟨by decide +kernel, rfl, ⟨rfl, rfl⟩⟩
theorem e_RB_init_87 : okE R_RB 1 b_RB_init (87, (.goto (-21), 90, 0, 0, 66, 0, 0, [])) := ⟨by decide +kernel, rfl, rfl⟩
theorem e_RB_init_90 : okE R_RB 1 b_RB_init (90, (.return_, 91, 0, 0, 0, 0, 0, [])) := ⟨by decide +kernel, rfl, trivial⟩
def k_RB_init : List (Nat × En) := [(0, (.aload_n 0, 1, 0, 0, 0, 0, 0, [])), (1, (.invokespecial 3, 4, 0, 0, 0, 0, 0, [])), (4, (.aload_n 0, 5, 0, 0, 0, 0, 0, [])), (5, (.bipush 14, 7, 14, 0, 0, 0, 0, [])), (7, (.anewarray 9, 10, 0, 0, 4, 0, 0, [])), (10, (.putfield 11, 13, 0, 0, 3, 0, 2, [])), (13, (.iconst 0, 14, 0, 0, 0, 0, 0, [])), (14, (.istore_n 1, 15, 0, 0, 1, 0, 0, [])), (15, (.iload_n 1, 16, 0, 0, 1, 0, 0, [])), (16, (.bipush 14, 18, 14, 0, 0, 0, 0, [])), (18, (.if_icmp .ge 22, 21, 0, 0, 40, 0, 0, [])), (21, (.aload_n 0, 22, 0, 0, 0, 0, 0, [])), (22, (.getfield 11, 25, 0, 0, 3, 0, 2, [])), (25, (.iload_n 1, 26, 0, 0, 1, 0, 0, [])), (26, (.new 9, 29, 0, 0, 4, 0, 0, [])), (29, (.dup, 30, 0, 0, 0, 0, 0, [])), (30, (.invokespecial 17, 33, 0, 0, 1, 0, 0, [])), (33, (.aastore, 34, 0, 0, 4, 4, 0, [])), (34, (.iinc 1 1, 37, 1, 0, 1, 0, 0, [])), (37, (.goto (-22), 40, 0, 0, 15, 0, 0, [])), (40, (.aload_n 0, 41, 0, 0, 0, 0, 0, [])), (41, (.bipush 14, 43, 14, 0, 0, 0, 0, [])), (43, (.newarray .int, 45, 0, 0, 0, 0, 0, [])), (45, (.putfield 18, 48, 0, 0, 3, 1, 2, [])), (48, (.aload_n 0, 49, 0, 0, 0, 0, 0, [])), (49, (.bipush 14, 51, 14, 0, 0, 0, 0, [])), (51, (.newarray .int, 53, 0, 0, 0, 0, 0, [])), (53, (.putfield 22, 56, 0, 0, 3, 2, 2, [])), (56, (.aload_n 0, 57, 0, 0, 0, 0, 0, [])), (57, (.iconst 4, 58, 4, 0, 0, 0, 0, [])), (58, (.anewarray 25, 61, 0, 0, 3, 0, 0, [])), (61, (.putfield 27, 64, 0, 0, 3, 3, 2, [])), (64, (.iconst 0, 65, 0, 0, 0, 0, 0, [])), (65, (.istore_n 1, 66, 0, 0, 1, 0, 0, [])), (66, (.iload_n 1, 67, 0, 0, 1, 0, 0, [])), (67, (.iconst 4, 68, 4, 0, 0, 0, 0, [])), (68, (.if_icmp .ge 22, 71, 0, 0, 90, 0, 0, [])), (71, (.aload_n 0, 72, 0, 0, 0, 0, 0, [])), (72, (.getfield 27, 75, 0, 0, 3, 3, 2, [])), (75, (.iload_n 1, 76, 0, 0, 1, 0, 0, [])), (76, (.new 25, 79, 0, 0, 5, 0, 0, [])), (79, (.dup, 80, 0, 0, 0, 0, 0, [])), (80, (.invokespecial 31, 83, 0, 0, 2, 0, 0, [])), (83, (.aastore, 84, 0, 0, 3, 5, 0, [])), (84, (.iinc 1 1, 87, 1, 0, 1, 0, 0, [])), (87, (.goto (-21), 90, 0, 0, 66, 0, 0, [])), (90, (.return_, 91, 0, 0, 0, 0, 0, []))]
set_option maxRecDepth 100000 in
theorem ok_RB_init : ∀ x ∈ k_RB_init, okE R_RB 1 b_RB_init x := fc e_RB_init_0 (fc e_RB_init_1 (fc e_RB_init_4 (fc e_RB_init_5 (fc e_RB_init_7 (fc e_RB_init_10 (fc e_RB_init_13 (fc e_RB_init_14 (fc e_RB_init_15 (fc e_RB_init_16 (fc e_RB_init_18 (fc e_RB_init_21 (fc e_RB_init_22 (fc e_RB_init_25 (fc e_RB_init_26 (fc e_RB_init_29 (fc e_RB_init_30 (fc e_RB_init_33 (fc e_RB_init_34 (fc e_RB_init_37 (fc e_RB_init_40 (fc e_RB_init_41 (fc e_RB_init_43 (fc e_RB_init_45 (fc e_RB_init_48 (fc e_RB_init_49 (fc e_RB_init_51 (fc e_RB_init_53 (fc e_RB_init_56 (fc e_RB_init_57 (fc e_RB_init_58 (fc e_RB_init_61 (fc e_RB_init_64 (fc e_RB_init_65 (fc e_RB_init_66 (fc e_RB_init_67 (fc e_RB_init_68 (fc e_RB_init_71 (fc e_RB_init_72 (fc e_RB_init_75 (fc e_RB_init_76 (fc e_RB_init_79 (fc e_RB_init_80 (fc e_RB_init_83 (fc e_RB_init_84 (fc e_RB_init_87 (fc e_RB_init_90 (fun _ h => absurd h List.not_mem_nil)))))))))))))))))))))))))))))))))))))))))))))))
theorem rt_RB_init : ∀ x ∈ k_RB_init, okR 3 x.2.1 = true := by decide +kernel
theorem e_RB_readLibrary_0 : okE R_RB 0 b_RB_readLibrary (0, (.iconst 0, 1, 0, 0, 0, 0, 0, [])) := ⟨by decide +kernel, rfl, rfl⟩
theorem e_RB_readLibrary_1 : okE R_RB 0 b_RB_readLibrary (1, (.istore_n 1, 2, 0, 0, 1, 0, 0, [])) := ⟨by decide +kernel, rfl, rfl⟩
theorem e_RB_readLibrary_2 : okE R_RB 0 b_RB_readLibrary (2, (.iload_n 1, 3, 0, 0, 1, 0, 0, [])) := ⟨by decide +kernel, rfl, rfl⟩
theorem e_RB_readLibrary_3 : okE R_RB 0 b_RB_readLibrary (3, (.bipush 6, 5, 6, 0, 0, 0, 0, [])) := ⟨by decide +kernel, rfl, rfl⟩
theorem e_RB_readLibrary_5 : okE R_RB 0 b_RB_readLibrary (5, (.if_icmp .ge 84, 8, 0, 0, 89, 0, 0, [])) := ⟨by decide +kernel, rfl, rfl⟩
theorem e_RB_readLibrary_8 : okE R_RB 0 b_RB_readLibrary (8, (.iconst 0, 9, 0, 0, 0, 0, 0, [])) := ⟨by decide +kernel, rfl, rfl⟩
theorem e_RB_readLibrary_9 : okE R_RB 0 b_RB_readLibrary (9, (.istore_n 2, 10, 0, 0, 2, 0, 0, [])) := ⟨by decide +kernel, rfl, rfl⟩
theorem e_RB_readLibrary_10 : okE R_RB 0 b_RB_readLibrary (10, (.iload_n 2, 11, 0, 0, 2, 0, 0, [])) := ⟨by decide +kernel, rfl, rfl⟩
theorem e_RB_readLibrary_11 : okE R_RB 0 b_RB_readLibrary (11, (.iconst 4, 12, 4, 0, 0, 0, 0, [])) := ⟨by decide +kernel, rfl, rfl⟩
theorem e_RB_readLibrary_12 : okE R_RB 0 b_RB_readLibrary (12, (.if_icmp .ge 50, 15, 0, 0, 62, 0, 0, [])) := ⟨by decide +kernel, rfl, rfl⟩
theorem e_RB_readLibrary_15 : okE R_RB 0 b_RB_readLibrary (15, (.iconst 3, 16, 3, 0, 0, 0, 0, [])) := ⟨by decide +kernel, rfl, rfl⟩
theorem e_RB_readLibrary_16 : okE R_RB 0 b_RB_readLibrary (16, (.iload_n 1, 17, 0, 0, 1, 0, 0, [])) := ⟨by decide +kernel, rfl, rfl⟩
theorem e_RB_readLibrary_17 : okE R_RB 0 b_RB_readLibrary (17, (.iconst 4, 18, 4, 0, 0, 0, 0, [])) := ⟨by decide +kernel, rfl, rfl⟩
theorem e_RB_readLibrary_18 : okE R_RB 0 b_RB_readLibrary (18, (.imul, 19, 0, 0, 0, 0, 0, [])) := ⟨by decide +kernel, rfl, trivial⟩
theorem e_RB_readLibrary_19 : okE R_RB 0 b_RB_readLibrary (19, (.iload_n 2, 20, 0, 0, 2, 0, 0, [])) := ⟨by decide +kernel, rfl, rfl⟩
theorem e_RB_readLibrary_20 : okE R_RB 0 b_RB_readLibrary (20, (.iadd, 21, 0, 0, 0, 0, 0, [])) := ⟨by decide +kernel, rfl, trivial⟩
theorem e_RB_readLibrary_21 : okE R_RB 0 b_RB_readLibrary (21, (.imul, 22, 0, 0, 0, 0, 0, [])) := ⟨by decide +kernel, rfl, trivial⟩
theorem e_RB_readLibrary_22 : okE R_RB 0 b_RB_readLibrary (22, (.istore_n 3, 23, 0, 0, 3, 0, 0, [])) := ⟨by decide +kernel, rfl, rfl⟩
theorem e_RB_readLibrary_23 : okE R_RB 0 b_RB_readLibrary (23, (.getstatic 32, 26, 0, 0, 0, 0, 0, [])) := ⟨by decide +kernel, rfl, ⟨rfl, rfl⟩⟩
theorem e_RB_readLibrary_26 : okE R_RB 0 b_RB_readLibrary (26, (.iload_n 3, 27, 0, 0, 3, 0, 0, [])) := ⟨by decide +kernel, rfl, rfl⟩
theorem e_RB_readLibrary_27 : okE R_RB 0 b_RB_readLibrary (27, (.iaload, 28, 0, 0, 0, 0, 0, [])) := ⟨by decide +kernel, rfl, trivial⟩
theorem e_RB_readLibrary_28 : okE R_RB 0 b_RB_readLibrary (28, (.iconst (-1), 29, (-1), 0, 0, 0, 0, [])) := ⟨by decide +kernel, rfl, rfl⟩
theorem e_RB_readLibrary_29 : okE R_RB 0 b_RB_readLibrary (29, (.if_icmp .eq 27, 32, 0, 0, 56, 0, 0, [])) := ⟨by decide +kernel, rfl, rfl⟩
theorem e_RB_readLibrary_32 : okE R_RB 0 b_RB_readLibrary (32, (.aload_n 0, 33, 0, 0, 0, 0, 0, [])) := ⟨by decide +kernel, rfl, rfl⟩
theorem e_RB_readLibrary_33 : okE R_RB 0 b_RB_readLibrary (33, (.getstatic 32, 36, 0, 0, 0, 0, 0, [])) := ⟨by decide +kernel, rfl, ⟨rfl, rfl⟩⟩
theorem e_RB_readLibrary_36 : okE R_RB 0 b_RB_readLibrary (36, (.iload_n 3, 37, 0, 0, 3, 0, 0, [])) := ⟨by decide +kernel, rfl, rfl⟩
theorem e_RB_readLibrary_37 : okE R_RB 0 b_RB_readLibrary (37, (.iaload, 38, 0, 0, 0, 0, 0, [])) := ⟨by decide +kernel, rfl, trivial⟩
theorem e_RB_readLibrary_38 : okE R_RB 0 b_RB_readLibrary (38, (.getstatic 32, 41, 0, 0, 0, 0, 0, [])) := ⟨by decide +kernel, rfl, ⟨rfl, rfl⟩⟩
theorem e_RB_readLibrary_41 : okE R_RB 0 b_RB_readLibrary (41, (.iload_n 3, 42, 0, 0, 3, 0, 0, [])) := ⟨by decide +kernel, rfl, rfl⟩
theorem e_RB_readLibrary_42 : okE R_RB 0 b_RB_readLibrary (42, (.iconst 1, 43, 1, 0, 0, 0, 0, [])) := ⟨by decide +kernel, rfl, rfl⟩
theorem e_RB_readLibrary_43 : okE R_RB 0 b_RB_readLibrary (43, (.iadd, 44, 0, 0, 0, 0, 0, [])) := ⟨by decide +kernel, rfl, trivial⟩
theorem e_RB_readLibrary_44 : okE R_RB 0 b_RB_readLibrary (44, (.iaload, 45, 0, 0, 0, 0, 0, [])) := ⟨by decide +kernel, rfl, trivial⟩
theorem e_RB_readLibrary_45 : okE R_RB 0 b_RB_readLibrary (45, (.getstatic 32, 48, 0, 0, 0, 0, 0, [])) := ⟨by decide +kernel, rfl, ⟨rfl, rfl⟩⟩
theorem e_RB_readLibrary_48 : okE R_RB 0 b_RB_readLibrary (48, (.iload_n 3, 49, 0, 0, 3, 0, 0, [])) := ⟨by decide +kernel, rfl, rfl⟩
theorem e_RB_readLibrary_49 : okE R_RB 0 b_RB_readLibrary (49, (.iconst 2, 50, 2, 0, 0, 0, 0, [])) := ⟨by decide +kernel, rfl, rfl⟩
theorem e_RB_readLibrary_50 : okE R_RB 0 b_RB_readLibrary (50, (.iadd, 51, 0, 0, 0, 0, 0, [])) := ⟨by decide +kernel, rfl, trivial⟩
theorem e_RB_readLibrary_51 : okE R_RB 0 b_RB_readLibrary (51, (.iaload, 52, 0, 0, 0, 0, 0, [])) := ⟨by decide +kernel, rfl, trivial⟩
theorem e_RB_readLibrary_52 : okE R_RB 0 b_RB_readLibrary (52, (.iconst 0, 53, 0, 0, 0, 0, 0, [])) := ⟨by decide +kernel, rfl, rfl⟩
theorem e_RB_readLibrary_53 : okE R_RB 0 b_RB_readLibrary (53, (.invokevirtual 35, 56, 0, 0, 0, 0, 0, [])) := ⟨by decide +kernel, rfl, trivial⟩
theorem e_RB_readLibrary_56 : okE R_RB 0 b_RB_readLibrary (56, (.iinc 2 1, 59, 1, 0, 2, 0, 0, [])) := ⟨by decide +kernel, rfl, ⟨rfl, rfl⟩⟩
theorem e_RB_readLibrary_59 : okE R_RB 0 b_RB_readLibrary (59, (.goto (-49), 62, 0, 0, 10, 0, 0, [])) := ⟨by decide +kernel, rfl, rfl⟩
theorem e_RB_readLibrary_62 : okE R_RB 0 b_RB_readLibrary (62, (.aload_n 0, 63, 0, 0, 0, 0, 0, [])) := ⟨by decide +kernel, rfl, rfl⟩
theorem e_RB_readLibrary_63 : okE R_RB 0 b_RB_readLibrary (63, (.getfield 11, 66, 0, 0, 3, 0, 2, [])) := ⟨by decide +kernel, rfl, ⟨_, _, _, rfl, by decide, wf_RB_11, rfl, rfl⟩⟩
theorem e_RB_readLibrary_66 : okE R_RB 0 b_RB_readLibrary (66, (.iload_n 1, 67, 0, 0, 1, 0, 0, [])) := ⟨by decide +kernel, rfl, rfl⟩
theorem e_RB_readLibrary_67 : okE R_RB 0 b_RB_readLibrary (67, (.aaload, 68, 0, 0, 0, 0, 0, [])) := ⟨by decide +kernel, rfl, trivial⟩
theorem e_RB_readLibrary_68 : okE R_RB 0 b_RB_readLibrary (68, (.aload_n 0, 69, 0, 0, 0, 0, 0, [])) := ⟨by decide +kernel, rfl, rfl⟩
theorem e_RB_readLibrary_69 : okE R_RB 0 b_RB_readLibrary (69, (.getfield 27, 72, 0, 0, 3, 3, 2, [])) := ⟨by decide +kernel, rfl, ⟨_, _, _, rfl, by decide, wf_RB_27, rfl, rfl⟩⟩
theorem e_RB_readLibrary_72 : okE R_RB 0 b_RB_readLibrary (72, (.aload_n 0, 73, 0, 0, 0, 0, 0, [])) := ⟨by decide +kernel, rfl, rfl⟩
theorem e_RB_readLibrary_73 : okE R_RB 0 b_RB_readLibrary (73, (.getfield 39, 76, 0, 0, 3, 4, 0, [])) := ⟨by decide +kernel, rfl, ⟨_, _, _, rfl, by decide, wf_RB_39, rfl, rfl⟩⟩
theorem e_RB_readLibrary_76 : okE R_RB 0 b_RB_readLibrary (76, (.invokevirtual 43, 79, 0, 0, 1, 0, 0, [])) := ⟨by decide +kernel, rfl, trivial⟩
theorem e_RB_readLibrary_79 : okE R_RB 0 b_RB_readLibrary (79, (.aload_n 0, 80, 0, 0, 0, 0, 0, [])) := ⟨by decide +kernel, rfl, rfl⟩
theorem e_RB_readLibrary_80 : okE R_RB 0 b_RB_readLibrary (80, (.invokevirtual 47, 83, 0, 0, 2, 0, 0, [])) := ⟨by decide +kernel, rfl, trivial⟩
theorem e_RB_readLibrary_83 : okE R_RB 0 b_RB_readLibrary (83, (.iinc 1 1, 86, 1, 0, 1, 0, 0, [])) := ⟨by decide +kernel, rfl, ⟨rfl, rfl⟩⟩
theorem e_RB_readLibrary_86 : okE R_RB 0 b_RB_readLibrary (86, (.goto (-84), 89, 0, 0, 2, 0, 0, [])) := ⟨by decide +kernel, rfl, rfl⟩
theorem e_RB_readLibrary_89 : okE R_RB 0 b_RB_readLibrary (89, (.return_, 90, 0, 0, 0, 0, 0, [])) := ⟨by decide +kernel, rfl, trivial⟩
def k_RB_readLibrary : List (Nat × En) := [(0, (.iconst 0, 1, 0, 0, 0, 0, 0, [])), (1, (.istore_n 1, 2, 0, 0, 1, 0, 0, [])), (2, (.iload_n 1, 3, 0, 0, 1, 0, 0, [])), (3, (.bipush 6, 5, 6, 0, 0, 0, 0, [])), (5, (.if_icmp .ge 84, 8, 0, 0, 89, 0, 0, [])), (8, (.iconst 0, 9, 0, 0, 0, 0, 0, [])), (9, (.istore_n 2, 10, 0, 0, 2, 0, 0, [])), (10, (.iload_n 2, 11, 0, 0, 2, 0, 0, [])), (11, (.iconst 4, 12, 4, 0, 0, 0, 0, [])), (12, (.if_icmp .ge 50, 15, 0, 0, 62, 0, 0, [])), (15, (.iconst 3, 16, 3, 0, 0, 0, 0, [])), (16, (.iload_n 1, 17, 0, 0, 1, 0, 0, [])), (17, (.iconst 4, 18, 4, 0, 0, 0, 0, [])), (18, (.imul, 19, 0, 0, 0, 0, 0, [])), (19, (.iload_n 2, 20, 0, 0, 2, 0, 0, [])), (20, (.iadd, 21, 0, 0, 0, 0, 0, [])), (21, (.imul, 22, 0, 0, 0, 0, 0, [])), (22, (.istore_n 3, 23, 0, 0, 3, 0, 0, [])), (23, (.getstatic 32, 26, 0, 0, 0, 0, 0, [])), (26, (.iload_n 3, 27, 0, 0, 3, 0, 0, [])), (27, (.iaload, 28, 0, 0, 0, 0, 0, [])), (28, (.iconst (-1), 29, (-1), 0, 0, 0, 0, [])), (29, (.if_icmp .eq 27, 32, 0, 0, 56, 0, 0, [])), (32, (.aload_n 0, 33, 0, 0, 0, 0, 0, [])), (33, (.getstatic 32, 36, 0, 0, 0, 0, 0, [])), (36, (.iload_n 3, 37, 0, 0, 3, 0, 0, [])), (37, (.iaload, 38, 0, 0, 0, 0, 0, [])), (38, (.getstatic 32, 41, 0, 0, 0, 0, 0, [])), (41, (.iload_n 3, 42, 0, 0, 3, 0, 0, [])), (42, (.iconst 1, 43, 1, 0, 0, 0, 0, [])), (43, (.iadd, 44, 0, 0, 0, 0, 0, [])), (44, (.iaload, 45, 0, 0, 0, 0, 0, [])), (45, (.getstatic 32, 48, 0, 0, 0, 0, 0, [])), (48, (.iload_n 3, 49, 0, 0, 3, 0, 0, [])), (49, (.iconst 2, 50, 2, 0, 0, 0, 0, [])), (50, (.iadd, 51, 0, 0, 0, 0, 0, [])), (51, (.iaload, 52, 0, 0, 0, 0, 0, [])), (52, (.iconst 0, 53, 0, 0, 0, 0, 0, [])), (53, (.invokevirtual 35, 56, 0, 0, 0, 0, 0, [])), (56, (.iinc 2 1, 59, 1, 0, 2, 0, 0, [])), (59, (.goto (-49), 62, 0, 0, 10, 0, 0, [])), (62, (.aload_n 0, 63, 0, 0, 0, 0, 0, [])), (63, (.getfield 11, 66, 0, 0, 3, 0, 2, [])), (66, (.iload_n 1, 67, 0, 0, 1, 0, 0, [])), (67, (.aaload, 68, 0, 0, 0, 0, 0, [])), (68, (.aload_n 0, 69, 0, 0, 0, 0, 0, [])), (69, (.getfield 27, 72, 0, 0, 3, 3, 2, [])), (72, (.aload_n 0, 73, 0, 0, 0, 0, 0, [])), (73, (.getfield 39, 76, 0, 0, 3, 4, 0, [])), (76, (.invokevirtual 43, 79, 0, 0, 1, 0, 0, [])), (79, (.aload_n 0, 80, 0, 0, 0, 0, 0, [])), (80, (.invokevirtual 47, 83, 0, 0, 2, 0, 0, [])), (83, (.iinc 1 1, 86, 1, 0, 1, 0, 0, [])), (86, (.goto (-84), 89, 0, 0, 2, 0, 0, [])), (89, (.return_, 90, 0, 0, 0, 0, 0, []))]
set_option maxRecDepth 100000 in
theorem ok_RB_readLibrary : ∀ x ∈ k_RB_readLibrary, okE R_RB 0 b_RB_readLibrary x := fc e_RB_readLibrary_0 (fc e_RB_readLibrary_1 (fc e_RB_readLibrary_2 (fc e_RB_readLibrary_3 (fc e_RB_readLibrary_5 (fc e_RB_readLibrary_8 (fc e_RB_readLibrary_9 (fc e_RB_readLibrary_10 (fc e_RB_readLibrary_11 (fc e_RB_readLibrary_12 (fc e_RB_readLibrary_15 (fc e_RB_readLibrary_16 (fc e_RB_readLibrary_17 (fc e_RB_readLibrary_18 (fc e_RB_readLibrary_19 (fc e_RB_readLibrary_20 (fc e_RB_readLibrary_21 (fc e_RB_readLibrary_22 (fc e_RB_readLibrary_23 (fc e_RB_readLibrary_26 (fc e_RB_readLibrary_27 (fc e_RB_readLibrary_28 (fc e_RB_readLibrary_29 (fc e_RB_readLibrary_32 (fc e_RB_readLibrary_33 (fc e_RB_readLibrary_36 (fc e_RB_readLibrary_37 (fc e_RB_readLibrary_38 (fc e_RB_readLibrary_41 (fc e_RB_readLibrary_42 (fc e_RB_readLibrary_43 (fc e_RB_readLibrary_44 (fc e_RB_readLibrary_45 (fc e_RB_readLibrary_48 (fc e_RB_readLibrary_49 (fc e_RB_readLibrary_50 (fc e_RB_readLibrary_51 (fc e_RB_readLibrary_52 (fc e_RB_readLibrary_53 (fc e_RB_readLibrary_56 (fc e_RB_readLibrary_59 (fc e_RB_readLibrary_62 (fc e_RB_readLibrary_63 (fc e_RB_readLibrary_66 (fc e_RB_readLibrary_67 (fc e_RB_readLibrary_68 (fc e_RB_readLibrary_69 (fc e_RB_readLibrary_72 (fc e_RB_readLibrary_73 (fc e_RB_readLibrary_76 (fc e_RB_readLibrary_79 (fc e_RB_readLibrary_80 (fc e_RB_readLibrary_83 (fc e_RB_readLibrary_86 (fc e_RB_readLibrary_89 (fun _ h => absurd h List.not_mem_nil)))))))))))))))))))))))))))))))))))))))))))))))))))))))
theorem rt_RB_readLibrary : ∀ x ∈ k_RB_readLibrary, okR 3 x.2.1 = true := by decide +kernel
theorem e_RB_give_0 : okE R_RB 0 b_RB_give (0, (.aload_n 0, 1, 0, 0, 0, 0, 0, [])) := ⟨by decide +kernel, rfl, rfl⟩
theorem e_RB_give_1 : okE R_RB 0 b_RB_give (1, (.getfield 27, 4, 0, 0, 3, 3, 2, [])) := ⟨by decide +kernel, rfl, ⟨_, _, _, rfl, by decide, wf_RB_27, rfl, rfl⟩⟩
theorem e_RB_give_4 : okE R_RB 0 b_RB_give (4, (.aload_n 0, 5, 0, 0, 0, 0, 0, [])) := ⟨by decide +kernel, rfl, rfl⟩
theorem e_RB_give_5 : okE R_RB 0 b_RB_give (5, (.getfield 39, 8, 0, 0, 3, 4, 0, [])) := ⟨by decide +kernel, rfl, ⟨_, _, _, rfl, by decide, wf_RB_39, rfl, rfl⟩⟩
theorem e_RB_give_8 : okE R_RB 0 b_RB_give (8, (.aaload, 9, 0, 0, 0, 0, 0, [])) := ⟨by decide +kernel, rfl, trivial⟩
theorem e_RB_give_9 : okE R_RB 0 b_RB_give (9, (.iload_n 1, 10, 0, 0, 1, 0, 0, [])) := ⟨by decide +kernel, rfl, rfl⟩
theorem e_RB_give_10 : okE R_RB 0 b_RB_give (10, (.iload_n 2, 11, 0, 0, 2, 0, 0, [])) := ⟨by decide +kernel, rfl, rfl⟩
theorem e_RB_give_11 : okE R_RB 0 b_RB_give (11, (.iload_n 3, 12, 0, 0, 3, 0, 0, [])) := ⟨by decide +kernel, rfl, rfl⟩
theorem e_RB_give_12 : okE R_RB 0 b_RB_give (12, (.iload 4, 14, 0, 0, 4, 0, 0, [])) := ⟨by decide +kernel, rfl, rfl⟩
theorem e_RB_give_14 : okE R_RB 0 b_RB_give (14, (.invokevirtual 50, 17, 0, 0, 0, 0, 0, [])) := ⟨by decide +kernel, rfl, trivial⟩
theorem e_RB_give_17 : okE R_RB 0 b_RB_give (17, (.aload_n 0, 18, 0, 0, 0, 0, 0, [])) := ⟨by decide +kernel, rfl, rfl⟩
theorem e_RB_give_18 : okE R_RB 0 b_RB_give (18, (.dup, 19, 0, 0, 0, 0, 0, [])) := ⟨by decide +kernel, rfl, trivial⟩
theorem e_RB_give_19 : okE R_RB 0 b_RB_give (19, (.getfield 39, 22, 0, 0, 3, 4, 0, [])) := ⟨by decide +kernel, rfl, ⟨_, _, _, rfl, by decide, wf_RB_39, rfl, rfl⟩⟩
theorem e_RB_give_22 : okE R_RB 0 b_RB_give (22, (.iconst 1, 23, 1, 0, 0, 0, 0, [])) := ⟨by decide +kernel, rfl, rfl⟩
theorem e_RB_give_23 : okE R_RB 0 b_RB_give (23, (.iadd, 24, 0, 0, 0, 0, 0, [])) := ⟨by decide +kernel, rfl, trivial⟩
theorem e_RB_give_24 : okE R_RB 0 b_RB_give (24, (.putfield 39, 27, 0, 0, 3, 4, 0, [])) := ⟨by decide +kernel, rfl, ⟨⟨_, _, _, rfl, by decide, wf_RB_39, rfl, rfl⟩, ⟨_, _, _, rfl, Or.inl rfl, tk_RB.1 4 (by decide)⟩⟩⟩
theorem e_RB_give_27 : okE R_RB 0 b_RB_give (27, (.return_, 28, 0, 0, 0, 0, 0, [])) := ⟨by decide +kernel, rfl, trivial⟩
def k_RB_give : List (Nat × En) := [(0, (.aload_n 0, 1, 0, 0, 0, 0, 0, [])), (1, (.getfield 27, 4, 0, 0, 3, 3, 2, [])), (4, (.aload_n 0, 5, 0, 0, 0, 0, 0, [])), (5, (.getfield 39, 8, 0, 0, 3, 4, 0, [])), (8, (.aaload, 9, 0, 0, 0, 0, 0, [])), (9, (.iload_n 1, 10, 0, 0, 1, 0, 0, [])), (10, (.iload_n 2, 11, 0, 0, 2, 0, 0, [])), (11, (.iload_n 3, 12, 0, 0, 3, 0, 0, [])), (12, (.iload 4, 14, 0, 0, 4, 0, 0, [])), (14, (.invokevirtual 50, 17, 0, 0, 0, 0, 0, [])), (17, (.aload_n 0, 18, 0, 0, 0, 0, 0, [])), (18, (.dup, 19, 0, 0, 0, 0, 0, [])), (19, (.getfield 39, 22, 0, 0, 3, 4, 0, [])), (22, (.iconst 1, 23, 1, 0, 0, 0, 0, [])), (23, (.iadd, 24, 0, 0, 0, 0, 0, [])), (24, (.putfield 39, 27, 0, 0, 3, 4, 0, [])), (27, (.return_, 28, 0, 0, 0, 0, 0, []))]
set_option maxRecDepth 100000 in
theorem ok_RB_give : ∀ x ∈ k_RB_give, okE R_RB 0 b_RB_give x := fc e_RB_give_0 (fc e_RB_give_1 (fc e_RB_give_4 (fc e_RB_give_5 (fc e_RB_give_8 (fc e_RB_give_9 (fc e_RB_give_10 (fc e_RB_give_11 (fc e_RB_give_12 (fc e_RB_give_14 (fc e_RB_give_17 (fc e_RB_give_18 (fc e_RB_give_19 (fc e_RB_give_22 (fc e_RB_give_23 (fc e_RB_give_24 (fc e_RB_give_27 (fun _ h => absurd h List.not_mem_nil)))))))))))))))))
theorem rt_RB_give : ∀ x ∈ k_RB_give, okR 3 x.2.1 = true := by decide +kernel
theorem e_RB_dropGiven_0 : okE R_RB 0 b_RB_dropGiven (0, (.aload_n 0, 1, 0, 0, 0, 0, 0, [])) := ⟨by decide +kernel, rfl, rfl⟩
theorem e_RB_dropGiven_1 : okE R_RB 0 b_RB_dropGiven (1, (.iconst 0, 2, 0, 0, 0, 0, 0, [])) := ⟨by decide +kernel, rfl, rfl⟩
theorem e_RB_dropGiven_2 : okE R_RB 0 b_RB_dropGiven (2, (.putfield 39, 5, 0, 0, 3, 4, 0, [])) := ⟨by decide +kernel, rfl, ⟨⟨_, _, _, rfl, by decide, wf_RB_39, rfl, rfl⟩, ⟨_, _, _, rfl, Or.inl rfl, tk_RB.1 4 (by decide)⟩⟩⟩
theorem e_RB_dropGiven_5 : okE R_RB 0 b_RB_dropGiven (5, (.return_, 6, 0, 0, 0, 0, 0, [])) := ⟨by decide +kernel, rfl, trivial⟩
def k_RB_dropGiven : List (Nat × En) := [(0, (.aload_n 0, 1, 0, 0, 0, 0, 0, [])), (1, (.iconst 0, 2, 0, 0, 0, 0, 0, [])), (2, (.putfield 39, 5, 0, 0, 3, 4, 0, [])), (5, (.return_, 6, 0, 0, 0, 0, 0, []))]
set_option maxRecDepth 100000 in
theorem ok_RB_dropGiven : ∀ x ∈ k_RB_dropGiven, okE R_RB 0 b_RB_dropGiven x := fc e_RB_dropGiven_0 (fc e_RB_dropGiven_1 (fc e_RB_dropGiven_2 (fc e_RB_dropGiven_5 (fun _ h => absurd h List.not_mem_nil))))
theorem rt_RB_dropGiven : ∀ x ∈ k_RB_dropGiven, okR 3 x.2.1 = true := by decide +kernel
theorem e_RB_affectedBy_0 : okE R_RB 0 b_RB_affectedBy (0, (.iload_n 1, 1, 0, 0, 1, 0, 0, [])) := ⟨by decide +kernel, rfl, rfl⟩
theorem e_RB_affectedBy_1 : okE R_RB 0 b_RB_affectedBy (1, (.istore_n 2, 2, 0, 0, 2, 0, 0, [])) := ⟨by decide +kernel, rfl, rfl⟩
theorem e_RB_affectedBy_2 : okE R_RB 0 b_RB_affectedBy (2, (.iconst 0, 3, 0, 0, 0, 0, 0, [])) := ⟨by decide +kernel, rfl, rfl⟩
theorem e_RB_affectedBy_3 : okE R_RB 0 b_RB_affectedBy (3, (.istore_n 3, 4, 0, 0, 3, 0, 0, [])) := ⟨by decide +kernel, rfl, rfl⟩
theorem e_RB_affectedBy_4 : okE R_RB 0 b_RB_affectedBy (4, (.iconst 0, 5, 0, 0, 0, 0, 0, [])) := ⟨by decide +kernel, rfl, rfl⟩
theorem e_RB_affectedBy_5 : okE R_RB 0 b_RB_affectedBy (5, (.istore 4, 7, 0, 0, 4, 0, 0, [])) := ⟨by decide +kernel, rfl, rfl⟩
theorem e_RB_affectedBy_7 : okE R_RB 0 b_RB_affectedBy (7, (.iload 4, 9, 0, 0, 4, 0, 0, [])) := ⟨by decide +kernel, rfl, rfl⟩
theorem e_RB_affectedBy_9 : okE R_RB 0 b_RB_affectedBy (9, (.bipush 14, 11, 14, 0, 0, 0, 0, [])) := ⟨by decide +kernel, rfl, rfl⟩
theorem e_RB_affectedBy_11 : okE R_RB 0 b_RB_affectedBy (11, (.if_icmp .ge 72, 14, 0, 0, 83, 0, 0, [])) := ⟨by decide +kernel, rfl, rfl⟩
theorem e_RB_affectedBy_14 : okE R_RB 0 b_RB_affectedBy (14, (.iload_n 2, 15, 0, 0, 2, 0, 0, [])) := ⟨by decide +kernel, rfl, rfl⟩
theorem e_RB_affectedBy_15 : okE R_RB 0 b_RB_affectedBy (15, (.iload_n 3, 16, 0, 0, 3, 0, 0, [])) := ⟨by decide +kernel, rfl, rfl⟩
theorem e_RB_affectedBy_16 : okE R_RB 0 b_RB_affectedBy (16, (.if_icmp .eq 67, 19, 0, 0, 83, 0, 0, [])) := ⟨by decide +kernel, rfl, rfl⟩
theorem e_RB_affectedBy_19 : okE R_RB 0 b_RB_affectedBy (19, (.iload_n 2, 20, 0, 0, 2, 0, 0, [])) := ⟨by decide +kernel, rfl, rfl⟩
theorem e_RB_affectedBy_20 : okE R_RB 0 b_RB_affectedBy (20, (.istore_n 3, 21, 0, 0, 3, 0, 0, [])) := ⟨by decide +kernel, rfl, rfl⟩
theorem e_RB_affectedBy_21 : okE R_RB 0 b_RB_affectedBy (21, (.iconst 0, 22, 0, 0, 0, 0, 0, [])) := ⟨by decide +kernel, rfl, rfl⟩
theorem e_RB_affectedBy_22 : okE R_RB 0 b_RB_affectedBy (22, (.istore 5, 24, 0, 0, 5, 0, 0, [])) := ⟨by decide +kernel, rfl, rfl⟩
theorem e_RB_affectedBy_24 : okE R_RB 0 b_RB_affectedBy (24, (.iload 5, 26, 0, 0, 5, 0, 0, [])) := ⟨by decide +kernel, rfl, rfl⟩
theorem e_RB_affectedBy_26 : okE R_RB 0 b_RB_affectedBy (26, (.bipush 14, 28, 14, 0, 0, 0, 0, [])) := ⟨by decide +kernel, rfl, rfl⟩
theorem e_RB_affectedBy_28 : okE R_RB 0 b_RB_affectedBy (28, (.if_icmp .ge 49, 31, 0, 0, 77, 0, 0, [])) := ⟨by decide +kernel, rfl, rfl⟩
theorem e_RB_affectedBy_31 : okE R_RB 0 b_RB_affectedBy (31, (.aload_n 0, 32, 0, 0, 0, 0, 0, [])) := ⟨by decide +kernel, rfl, rfl⟩
theorem e_RB_affectedBy_32 : okE R_RB 0 b_RB_affectedBy (32, (.getfield 11, 35, 0, 0, 3, 0, 2, [])) := ⟨by decide +kernel, rfl, ⟨_, _, _, rfl, by decide, wf_RB_11, rfl, rfl⟩⟩
theorem e_RB_affectedBy_35 : okE R_RB 0 b_RB_affectedBy (35, (.iload 5, 37, 0, 0, 5, 0, 0, [])) := ⟨by decide +kernel, rfl, rfl⟩
theorem e_RB_affectedBy_37 : okE R_RB 0 b_RB_affectedBy (37, (.aaload, 38, 0, 0, 0, 0, 0, [])) := ⟨by decide +kernel, rfl, trivial⟩
theorem e_RB_affectedBy_38 : okE R_RB 0 b_RB_affectedBy (38, (.astore 6, 40, 0, 0, 6, 0, 0, [])) := ⟨by decide +kernel, rfl, rfl⟩
theorem e_RB_affectedBy_40 : okE R_RB 0 b_RB_affectedBy (40, (.aload 6, 42, 0, 0, 6, 0, 0, [])) := ⟨by decide +kernel, rfl, rfl⟩
theorem e_RB_affectedBy_42 : okE R_RB 0 b_RB_affectedBy (42, (.getfield 74, 45, 0, 0, 4, 4, 3, [])) := ⟨by decide +kernel, rfl, ⟨_, _, _, rfl, by decide, wf_RB_74, rfl, rfl⟩⟩
theorem e_RB_affectedBy_45 : okE R_RB 0 b_RB_affectedBy (45, (.ifCond .eq 26, 48, 0, 0, 71, 0, 0, [])) := ⟨by decide +kernel, rfl, rfl⟩
theorem e_RB_affectedBy_48 : okE R_RB 0 b_RB_affectedBy (48, (.aload 6, 50, 0, 0, 6, 0, 0, [])) := ⟨by decide +kernel, rfl, rfl⟩
theorem e_RB_affectedBy_50 : okE R_RB 0 b_RB_affectedBy (50, (.getfield 115, 53, 0, 0, 4, 3, 0, [])) := ⟨by decide +kernel, rfl, ⟨_, _, _, rfl, by decide, wf_RB_115, rfl, rfl⟩⟩
theorem e_RB_affectedBy_53 : okE R_RB 0 b_RB_affectedBy (53, (.iload_n 2, 54, 0, 0, 2, 0, 0, [])) := ⟨by decide +kernel, rfl, rfl⟩
theorem e_RB_affectedBy_54 : okE R_RB 0 b_RB_affectedBy (54, (.iand, 55, 0, 0, 0, 0, 0, [])) := ⟨by decide +kernel, rfl, trivial⟩
theorem e_RB_affectedBy_55 : okE R_RB 0 b_RB_affectedBy (55, (.ifCond .eq 16, 58, 0, 0, 71, 0, 0, [])) := ⟨by decide +kernel, rfl, rfl⟩
theorem e_RB_affectedBy_58 : okE R_RB 0 b_RB_affectedBy (58, (.iload_n 2, 59, 0, 0, 2, 0, 0, [])) := ⟨by decide +kernel, rfl, rfl⟩
theorem e_RB_affectedBy_59 : okE R_RB 0 b_RB_affectedBy (59, (.iconst 1, 60, 1, 0, 0, 0, 0, [])) := ⟨by decide +kernel, rfl, rfl⟩
theorem e_RB_affectedBy_60 : okE R_RB 0 b_RB_affectedBy (60, (.aload 6, 62, 0, 0, 6, 0, 0, [])) := ⟨by decide +kernel, rfl, rfl⟩
theorem e_RB_affectedBy_62 : okE R_RB 0 b_RB_affectedBy (62, (.getfield 77, 65, 0, 0, 4, 0, 2, [])) := ⟨by decide +kernel, rfl, ⟨_, _, _, rfl, by decide, wf_RB_77, rfl, rfl⟩⟩
theorem e_RB_affectedBy_65 : okE R_RB 0 b_RB_affectedBy (65, (.getfield 81, 68, 0, 0, 5, 0, 0, [])) := ⟨by decide +kernel, rfl, ⟨_, _, _, rfl, by decide, wf_RB_81, rfl, rfl⟩⟩
theorem e_RB_affectedBy_68 : okE R_RB 0 b_RB_affectedBy (68, (.ishl, 69, 0, 0, 0, 0, 0, [])) := ⟨by decide +kernel, rfl, trivial⟩
theorem e_RB_affectedBy_69 : okE R_RB 0 b_RB_affectedBy (69, (.ior, 70, 0, 0, 0, 0, 0, [])) := ⟨by decide +kernel, rfl, trivial⟩
theorem e_RB_affectedBy_70 : okE R_RB 0 b_RB_affectedBy (70, (.istore_n 2, 71, 0, 0, 2, 0, 0, [])) := ⟨by decide +kernel, rfl, rfl⟩
theorem e_RB_affectedBy_71 : okE R_RB 0 b_RB_affectedBy (71, (.iinc 5 1, 74, 1, 0, 5, 0, 0, [])) := ⟨by decide +kernel, rfl, ⟨rfl, rfl⟩⟩
theorem e_RB_affectedBy_74 : okE R_RB 0 b_RB_affectedBy (74, (.goto (-50), 77, 0, 0, 24, 0, 0, [])) := ⟨by decide +kernel, rfl, rfl⟩
theorem e_RB_affectedBy_77 : okE R_RB 0 b_RB_affectedBy (77, (.iinc 4 1, 80, 1, 0, 4, 0, 0, [])) := ⟨by decide +kernel, rfl, ⟨rfl, rfl⟩⟩
theorem e_RB_affectedBy_80 : okE R_RB 0 b_RB_affectedBy (80, (.goto (-73), 83, 0, 0, 7, 0, 0, [])) := ⟨by decide +kernel, rfl, rfl⟩
theorem e_RB_affectedBy_83 : okE R_RB 0 b_RB_affectedBy (83, (.iload_n 2, 84, 0, 0, 2, 0, 0, [])) := ⟨by decide +kernel, rfl, rfl⟩
theorem e_RB_affectedBy_84 : okE R_RB 0 b_RB_affectedBy (84, (.ireturn, 85, 0, 0, 0, 0, 0, [])) := ⟨by decide +kernel, rfl, trivial⟩
def k_RB_affectedBy : List (Nat × En) := [(0, (.iload_n 1, 1, 0, 0, 1, 0, 0, [])), (1, (.istore_n 2, 2, 0, 0, 2, 0, 0, [])), (2, (.iconst 0, 3, 0, 0, 0, 0, 0, [])), (3, (.istore_n 3, 4, 0, 0, 3, 0, 0, [])), (4, (.iconst 0, 5, 0, 0, 0, 0, 0, [])), (5, (.istore 4, 7, 0, 0, 4, 0, 0, [])), (7, (.iload 4, 9, 0, 0, 4, 0, 0, [])), (9, (.bipush 14, 11, 14, 0, 0, 0, 0, [])), (11, (.if_icmp .ge 72, 14, 0, 0, 83, 0, 0, [])), (14, (.iload_n 2, 15, 0, 0, 2, 0, 0, [])), (15, (.iload_n 3, 16, 0, 0, 3, 0, 0, [])), (16, (.if_icmp .eq 67, 19, 0, 0, 83, 0, 0, [])), (19, (.iload_n 2, 20, 0, 0, 2, 0, 0, [])), (20, (.istore_n 3, 21, 0, 0, 3, 0, 0, [])), (21, (.iconst 0, 22, 0, 0, 0, 0, 0, [])), (22, (.istore 5, 24, 0, 0, 5, 0, 0, [])), (24, (.iload 5, 26, 0, 0, 5, 0, 0, [])), (26, (.bipush 14, 28, 14, 0, 0, 0, 0, [])), (28, (.if_icmp .ge 49, 31, 0, 0, 77, 0, 0, [])), (31, (.aload_n 0, 32, 0, 0, 0, 0, 0, [])), (32, (.getfield 11, 35, 0, 0, 3, 0, 2, [])), (35, (.iload 5, 37, 0, 0, 5, 0, 0, [])), (37, (.aaload, 38, 0, 0, 0, 0, 0, [])), (38, (.astore 6, 40, 0, 0, 6, 0, 0, [])), (40, (.aload 6, 42, 0, 0, 6, 0, 0, [])), (42, (.getfield 74, 45, 0, 0, 4, 4, 3, [])), (45, (.ifCond .eq 26, 48, 0, 0, 71, 0, 0, [])), (48, (.aload 6, 50, 0, 0, 6, 0, 0, [])), (50, (.getfield 115, 53, 0, 0, 4, 3, 0, [])), (53, (.iload_n 2, 54, 0, 0, 2, 0, 0, [])), (54, (.iand, 55, 0, 0, 0, 0, 0, [])), (55, (.ifCond .eq 16, 58, 0, 0, 71, 0, 0, [])), (58, (.iload_n 2, 59, 0, 0, 2, 0, 0, [])), (59, (.iconst 1, 60, 1, 0, 0, 0, 0, [])), (60, (.aload 6, 62, 0, 0, 6, 0, 0, [])), (62, (.getfield 77, 65, 0, 0, 4, 0, 2, [])), (65, (.getfield 81, 68, 0, 0, 5, 0, 0, [])), (68, (.ishl, 69, 0, 0, 0, 0, 0, [])), (69, (.ior, 70, 0, 0, 0, 0, 0, [])), (70, (.istore_n 2, 71, 0, 0, 2, 0, 0, [])), (71, (.iinc 5 1, 74, 1, 0, 5, 0, 0, [])), (74, (.goto (-50), 77, 0, 0, 24, 0, 0, [])), (77, (.iinc 4 1, 80, 1, 0, 4, 0, 0, [])), (80, (.goto (-73), 83, 0, 0, 7, 0, 0, [])), (83, (.iload_n 2, 84, 0, 0, 2, 0, 0, [])), (84, (.ireturn, 85, 0, 0, 0, 0, 0, []))]
set_option maxRecDepth 100000 in
theorem ok_RB_affectedBy : ∀ x ∈ k_RB_affectedBy, okE R_RB 0 b_RB_affectedBy x := fc e_RB_affectedBy_0 (fc e_RB_affectedBy_1 (fc e_RB_affectedBy_2 (fc e_RB_affectedBy_3 (fc e_RB_affectedBy_4 (fc e_RB_affectedBy_5 (fc e_RB_affectedBy_7 (fc e_RB_affectedBy_9 (fc e_RB_affectedBy_11 (fc e_RB_affectedBy_14 (fc e_RB_affectedBy_15 (fc e_RB_affectedBy_16 (fc e_RB_affectedBy_19 (fc e_RB_affectedBy_20 (fc e_RB_affectedBy_21 (fc e_RB_affectedBy_22 (fc e_RB_affectedBy_24 (fc e_RB_affectedBy_26 (fc e_RB_affectedBy_28 (fc e_RB_affectedBy_31 (fc e_RB_affectedBy_32 (fc e_RB_affectedBy_35 (fc e_RB_affectedBy_37 (fc e_RB_affectedBy_38 (fc e_RB_affectedBy_40 (fc e_RB_affectedBy_42 (fc e_RB_affectedBy_45 (fc e_RB_affectedBy_48 (fc e_RB_affectedBy_50 (fc e_RB_affectedBy_53 (fc e_RB_affectedBy_54 (fc e_RB_affectedBy_55 (fc e_RB_affectedBy_58 (fc e_RB_affectedBy_59 (fc e_RB_affectedBy_60 (fc e_RB_affectedBy_62 (fc e_RB_affectedBy_65 (fc e_RB_affectedBy_68 (fc e_RB_affectedBy_69 (fc e_RB_affectedBy_70 (fc e_RB_affectedBy_71 (fc e_RB_affectedBy_74 (fc e_RB_affectedBy_77 (fc e_RB_affectedBy_80 (fc e_RB_affectedBy_83 (fc e_RB_affectedBy_84 (fun _ h => absurd h List.not_mem_nil))))))))))))))))))))))))))))))))))))))))))))))
theorem rt_RB_affectedBy : ∀ x ∈ k_RB_affectedBy, okR 0 x.2.1 = true := by decide +kernel
theorem e_RB_makeRule_0 : okE R_RB 0 b_RB_makeRule (0, (.aload_n 0, 1, 0, 0, 0, 0, 0, [])) := ⟨by decide +kernel, rfl, rfl⟩
theorem e_RB_makeRule_1 : okE R_RB 0 b_RB_makeRule (1, (.invokevirtual 52, 4, 0, 0, 0, 0, 0, [])) := ⟨by decide +kernel, rfl, trivial⟩
theorem e_RB_makeRule_4 : okE R_RB 0 b_RB_makeRule (4, (.istore_n 1, 5, 0, 0, 1, 0, 0, [])) := ⟨by decide +kernel, rfl, rfl⟩
theorem e_RB_makeRule_5 : okE R_RB 0 b_RB_makeRule (5, (.aload_n 0, 6, 0, 0, 0, 0, 0, [])) := ⟨by decide +kernel, rfl, rfl⟩
theorem e_RB_makeRule_6 : okE R_RB 0 b_RB_makeRule (6, (.getfield 39, 9, 0, 0, 3, 4, 0, [])) := ⟨by decide +kernel, rfl, ⟨_, _, _, rfl, by decide, wf_RB_39, rfl, rfl⟩⟩
theorem e_RB_makeRule_9 : okE R_RB 0 b_RB_makeRule (9, (.ifCond .eq 8, 12, 0, 0, 17, 0, 0, [])) := ⟨by decide +kernel, rfl, rfl⟩
theorem e_RB_makeRule_12 : okE R_RB 0 b_RB_makeRule (12, (.iload_n 1, 13, 0, 0, 1, 0, 0, [])) := ⟨by decide +kernel, rfl, rfl⟩
theorem e_RB_makeRule_13 : okE R_RB 0 b_RB_makeRule (13, (.iconst (-1), 14, (-1), 0, 0, 0, 0, [])) := ⟨by decide +kernel, rfl, rfl⟩
theorem e_RB_makeRule_14 : okE R_RB 0 b_RB_makeRule (14, (.if_icmp .ne 5, 17, 0, 0, 19, 0, 0, [])) := ⟨by decide +kernel, rfl, rfl⟩
theorem e_RB_makeRule_17 : okE R_RB 0 b_RB_makeRule (17, (.iconst (-1), 18, (-1), 0, 0, 0, 0, [])) := ⟨by decide +kernel, rfl, rfl⟩
theorem e_RB_makeRule_18 : okE R_RB 0 b_RB_makeRule (18, (.ireturn, 19, 0, 0, 0, 0, 0, [])) := ⟨by decide +kernel, rfl, trivial⟩
theorem e_RB_makeRule_19 : okE R_RB 0 b_RB_makeRule (19, (.aload_n 0, 20, 0, 0, 0, 0, 0, [])) := ⟨by decide +kernel, rfl, rfl⟩
theorem e_RB_makeRule_20 : okE R_RB 0 b_RB_makeRule (20, (.invokevirtual 56, 23, 0, 0, 1, 0, 0, [])) := ⟨by decide +kernel, rfl, trivial⟩
theorem e_RB_makeRule_23 : okE R_RB 0 b_RB_makeRule (23, (.ifCond .ne 6, 26, 0, 0, 29, 0, 0, [])) := ⟨by decide +kernel, rfl, rfl⟩
theorem e_RB_makeRule_26 : okE R_RB 0 b_RB_makeRule (26, (.bipush (-2), 28, (-2), 0, 0, 0, 0, [])) := ⟨by decide +kernel, rfl, rfl⟩
theorem e_RB_makeRule_28 : okE R_RB 0 b_RB_makeRule (28, (.ireturn, 29, 0, 0, 0, 0, 0, [])) := ⟨by decide +kernel, rfl, trivial⟩
theorem e_RB_makeRule_29 : okE R_RB 0 b_RB_makeRule (29, (.aload_n 0, 30, 0, 0, 0, 0, 0, [])) := ⟨by decide +kernel, rfl, rfl⟩
theorem e_RB_makeRule_30 : okE R_RB 0 b_RB_makeRule (30, (.getfield 11, 33, 0, 0, 3, 0, 2, [])) := ⟨by decide +kernel, rfl, ⟨_, _, _, rfl, by decide, wf_RB_11, rfl, rfl⟩⟩
theorem e_RB_makeRule_33 : okE R_RB 0 b_RB_makeRule (33, (.iload_n 1, 34, 0, 0, 1, 0, 0, [])) := ⟨by decide +kernel, rfl, rfl⟩
theorem e_RB_makeRule_34 : okE R_RB 0 b_RB_makeRule (34, (.aaload, 35, 0, 0, 0, 0, 0, [])) := ⟨by decide +kernel, rfl, trivial⟩
theorem e_RB_makeRule_35 : okE R_RB 0 b_RB_makeRule (35, (.aload_n 0, 36, 0, 0, 0, 0, 0, [])) := ⟨by decide +kernel, rfl, rfl⟩
theorem e_RB_makeRule_36 : okE R_RB 0 b_RB_makeRule (36, (.getfield 27, 39, 0, 0, 3, 3, 2, [])) := ⟨by decide +kernel, rfl, ⟨_, _, _, rfl, by decide, wf_RB_27, rfl, rfl⟩⟩
theorem e_RB_makeRule_39 : okE R_RB 0 b_RB_makeRule (39, (.aload_n 0, 40, 0, 0, 0, 0, 0, [])) := ⟨by decide +kernel, rfl, rfl⟩
theorem e_RB_makeRule_40 : okE R_RB 0 b_RB_makeRule (40, (.getfield 39, 43, 0, 0, 3, 4, 0, [])) := ⟨by decide +kernel, rfl, ⟨_, _, _, rfl, by decide, wf_RB_39, rfl, rfl⟩⟩
theorem e_RB_makeRule_43 : okE R_RB 0 b_RB_makeRule (43, (.invokevirtual 43, 46, 0, 0, 2, 0, 0, [])) := ⟨by decide +kernel, rfl, trivial⟩
theorem e_RB_makeRule_46 : okE R_RB 0 b_RB_makeRule (46, (.aload_n 0, 47, 0, 0, 0, 0, 0, [])) := ⟨by decide +kernel, rfl, rfl⟩
theorem e_RB_makeRule_47 : okE R_RB 0 b_RB_makeRule (47, (.invokevirtual 60, 50, 0, 0, 3, 0, 0, [])) := ⟨by decide +kernel, rfl, trivial⟩
theorem e_RB_makeRule_50 : okE R_RB 0 b_RB_makeRule (50, (.ifCond .ne 11, 53, 0, 0, 61, 0, 0, [])) := ⟨by decide +kernel, rfl, rfl⟩
theorem e_RB_makeRule_53 : okE R_RB 0 b_RB_makeRule (53, (.aload_n 0, 54, 0, 0, 0, 0, 0, [])) := ⟨by decide +kernel, rfl, rfl⟩
theorem e_RB_makeRule_54 : okE R_RB 0 b_RB_makeRule (54, (.iload_n 1, 55, 0, 0, 1, 0, 0, [])) := ⟨by decide +kernel, rfl, rfl⟩
theorem e_RB_makeRule_55 : okE R_RB 0 b_RB_makeRule (55, (.invokevirtual 63, 58, 0, 0, 4, 0, 0, [])) := ⟨by decide +kernel, rfl, trivial⟩
theorem e_RB_makeRule_58 : okE R_RB 0 b_RB_makeRule (58, (.bipush (-3), 60, (-3), 0, 0, 0, 0, [])) := ⟨by decide +kernel, rfl, rfl⟩
theorem e_RB_makeRule_60 : okE R_RB 0 b_RB_makeRule (60, (.ireturn, 61, 0, 0, 0, 0, 0, [])) := ⟨by decide +kernel, rfl, trivial⟩
theorem e_RB_makeRule_61 : okE R_RB 0 b_RB_makeRule (61, (.iload_n 1, 62, 0, 0, 1, 0, 0, [])) := ⟨by decide +kernel, rfl, rfl⟩
theorem e_RB_makeRule_62 : okE R_RB 0 b_RB_makeRule (62, (.ireturn, 63, 0, 0, 0, 0, 0, [])) := ⟨by decide +kernel, rfl, trivial⟩
def k_RB_makeRule : List (Nat × En) := [(0, (.aload_n 0, 1, 0, 0, 0, 0, 0, [])), (1, (.invokevirtual 52, 4, 0, 0, 0, 0, 0, [])), (4, (.istore_n 1, 5, 0, 0, 1, 0, 0, [])), (5, (.aload_n 0, 6, 0, 0, 0, 0, 0, [])), (6, (.getfield 39, 9, 0, 0, 3, 4, 0, [])), (9, (.ifCond .eq 8, 12, 0, 0, 17, 0, 0, [])), (12, (.iload_n 1, 13, 0, 0, 1, 0, 0, [])), (13, (.iconst (-1), 14, (-1), 0, 0, 0, 0, [])), (14, (.if_icmp .ne 5, 17, 0, 0, 19, 0, 0, [])), (17, (.iconst (-1), 18, (-1), 0, 0, 0, 0, [])), (18, (.ireturn, 19, 0, 0, 0, 0, 0, [])), (19, (.aload_n 0, 20, 0, 0, 0, 0, 0, [])), (20, (.invokevirtual 56, 23, 0, 0, 1, 0, 0, [])), (23, (.ifCond .ne 6, 26, 0, 0, 29, 0, 0, [])), (26, (.bipush (-2), 28, (-2), 0, 0, 0, 0, [])), (28, (.ireturn, 29, 0, 0, 0, 0, 0, [])), (29, (.aload_n 0, 30, 0, 0, 0, 0, 0, [])), (30, (.getfield 11, 33, 0, 0, 3, 0, 2, [])), (33, (.iload_n 1, 34, 0, 0, 1, 0, 0, [])), (34, (.aaload, 35, 0, 0, 0, 0, 0, [])), (35, (.aload_n 0, 36, 0, 0, 0, 0, 0, [])), (36, (.getfield 27, 39, 0, 0, 3, 3, 2, [])), (39, (.aload_n 0, 40, 0, 0, 0, 0, 0, [])), (40, (.getfield 39, 43, 0, 0, 3, 4, 0, [])), (43, (.invokevirtual 43, 46, 0, 0, 2, 0, 0, [])), (46, (.aload_n 0, 47, 0, 0, 0, 0, 0, [])), (47, (.invokevirtual 60, 50, 0, 0, 3, 0, 0, [])), (50, (.ifCond .ne 11, 53, 0, 0, 61, 0, 0, [])), (53, (.aload_n 0, 54, 0, 0, 0, 0, 0, [])), (54, (.iload_n 1, 55, 0, 0, 1, 0, 0, [])), (55, (.invokevirtual 63, 58, 0, 0, 4, 0, 0, [])), (58, (.bipush (-3), 60, (-3), 0, 0, 0, 0, [])), (60, (.ireturn, 61, 0, 0, 0, 0, 0, [])), (61, (.iload_n 1, 62, 0, 0, 1, 0, 0, [])), (62, (.ireturn, 63, 0, 0, 0, 0, 0, []))]
set_option maxRecDepth 100000 in
theorem ok_RB_makeRule : ∀ x ∈ k_RB_makeRule, okE R_RB 0 b_RB_makeRule x := fc e_RB_makeRule_0 (fc e_RB_makeRule_1 (fc e_RB_makeRule_4 (fc e_RB_makeRule_5 (fc e_RB_makeRule_6 (fc e_RB_makeRule_9 (fc e_RB_makeRule_12 (fc e_RB_makeRule_13 (fc e_RB_makeRule_14 (fc e_RB_makeRule_17 (fc e_RB_makeRule_18 (fc e_RB_makeRule_19 (fc e_RB_makeRule_20 (fc e_RB_makeRule_23 (fc e_RB_makeRule_26 (fc e_RB_makeRule_28 (fc e_RB_makeRule_29 (fc e_RB_makeRule_30 (fc e_RB_makeRule_33 (fc e_RB_makeRule_34 (fc e_RB_makeRule_35 (fc e_RB_makeRule_36 (fc e_RB_makeRule_39 (fc e_RB_makeRule_40 (fc e_RB_makeRule_43 (fc e_RB_makeRule_46 (fc e_RB_makeRule_47 (fc e_RB_makeRule_50 (fc e_RB_makeRule_53 (fc e_RB_makeRule_54 (fc e_RB_makeRule_55 (fc e_RB_makeRule_58 (fc e_RB_makeRule_60 (fc e_RB_makeRule_61 (fc e_RB_makeRule_62 (fun _ h => absurd h List.not_mem_nil)))))))))))))))))))))))))))))))))))
theorem rt_RB_makeRule : ∀ x ∈ k_RB_makeRule, okR 0 x.2.1 = true := by decide +kernel
theorem e_RB_freeNumber_0 : okE R_RB 0 b_RB_freeNumber (0, (.bipush 6, 2, 6, 0, 0, 0, 0, [])) := ⟨by decide +kernel, rfl, rfl⟩
theorem e_RB_freeNumber_2 : okE R_RB 0 b_RB_freeNumber (2, (.istore_n 1, 3, 0, 0, 1, 0, 0, [])) := ⟨by decide +kernel, rfl, rfl⟩
theorem e_RB_freeNumber_3 : okE R_RB 0 b_RB_freeNumber (3, (.iload_n 1, 4, 0, 0, 1, 0, 0, [])) := ⟨by decide +kernel, rfl, rfl⟩
theorem e_RB_freeNumber_4 : okE R_RB 0 b_RB_freeNumber (4, (.bipush 14, 6, 14, 0, 0, 0, 0, [])) := ⟨by decide +kernel, rfl, rfl⟩
theorem e_RB_freeNumber_6 : okE R_RB 0 b_RB_freeNumber (6, (.if_icmp .ge 23, 9, 0, 0, 29, 0, 0, [])) := ⟨by decide +kernel, rfl, rfl⟩
theorem e_RB_freeNumber_9 : okE R_RB 0 b_RB_freeNumber (9, (.aload_n 0, 10, 0, 0, 0, 0, 0, [])) := ⟨by decide +kernel, rfl, rfl⟩
theorem e_RB_freeNumber_10 : okE R_RB 0 b_RB_freeNumber (10, (.getfield 11, 13, 0, 0, 3, 0, 2, [])) := ⟨by decide +kernel, rfl, ⟨_, _, _, rfl, by decide, wf_RB_11, rfl, rfl⟩⟩
theorem e_RB_freeNumber_13 : okE R_RB 0 b_RB_freeNumber (13, (.iload_n 1, 14, 0, 0, 1, 0, 0, [])) := ⟨by decide +kernel, rfl, rfl⟩
theorem e_RB_freeNumber_14 : okE R_RB 0 b_RB_freeNumber (14, (.aaload, 15, 0, 0, 0, 0, 0, [])) := ⟨by decide +kernel, rfl, trivial⟩
theorem e_RB_freeNumber_15 : okE R_RB 0 b_RB_freeNumber (15, (.getfield 74, 18, 0, 0, 4, 4, 3, [])) := ⟨by decide +kernel, rfl, ⟨_, _, _, rfl, by decide, wf_RB_74, rfl, rfl⟩⟩
theorem e_RB_freeNumber_18 : okE R_RB 0 b_RB_freeNumber (18, (.ifCond .ne 5, 21, 0, 0, 23, 0, 0, [])) := ⟨by decide +kernel, rfl, rfl⟩
theorem e_RB_freeNumber_21 : okE R_RB 0 b_RB_freeNumber (21, (.iload_n 1, 22, 0, 0, 1, 0, 0, [])) := ⟨by decide +kernel, rfl, rfl⟩
theorem e_RB_freeNumber_22 : okE R_RB 0 b_RB_freeNumber (22, (.ireturn, 23, 0, 0, 0, 0, 0, [])) := ⟨by decide +kernel, rfl, trivial⟩
theorem e_RB_freeNumber_23 : okE R_RB 0 b_RB_freeNumber (23, (.iinc 1 1, 26, 1, 0, 1, 0, 0, [])) := ⟨by decide +kernel, rfl, ⟨rfl, rfl⟩⟩
theorem e_RB_freeNumber_26 : okE R_RB 0 b_RB_freeNumber (26, (.goto (-23), 29, 0, 0, 3, 0, 0, [])) := ⟨by decide +kernel, rfl, rfl⟩
theorem e_RB_freeNumber_29 : okE R_RB 0 b_RB_freeNumber (29, (.iconst (-1), 30, (-1), 0, 0, 0, 0, [])) := ⟨by decide +kernel, rfl, rfl⟩
theorem e_RB_freeNumber_30 : okE R_RB 0 b_RB_freeNumber (30, (.ireturn, 31, 0, 0, 0, 0, 0, [])) := ⟨by decide +kernel, rfl, trivial⟩
def k_RB_freeNumber : List (Nat × En) := [(0, (.bipush 6, 2, 6, 0, 0, 0, 0, [])), (2, (.istore_n 1, 3, 0, 0, 1, 0, 0, [])), (3, (.iload_n 1, 4, 0, 0, 1, 0, 0, [])), (4, (.bipush 14, 6, 14, 0, 0, 0, 0, [])), (6, (.if_icmp .ge 23, 9, 0, 0, 29, 0, 0, [])), (9, (.aload_n 0, 10, 0, 0, 0, 0, 0, [])), (10, (.getfield 11, 13, 0, 0, 3, 0, 2, [])), (13, (.iload_n 1, 14, 0, 0, 1, 0, 0, [])), (14, (.aaload, 15, 0, 0, 0, 0, 0, [])), (15, (.getfield 74, 18, 0, 0, 4, 4, 3, [])), (18, (.ifCond .ne 5, 21, 0, 0, 23, 0, 0, [])), (21, (.iload_n 1, 22, 0, 0, 1, 0, 0, [])), (22, (.ireturn, 23, 0, 0, 0, 0, 0, [])), (23, (.iinc 1 1, 26, 1, 0, 1, 0, 0, [])), (26, (.goto (-23), 29, 0, 0, 3, 0, 0, [])), (29, (.iconst (-1), 30, (-1), 0, 0, 0, 0, [])), (30, (.ireturn, 31, 0, 0, 0, 0, 0, []))]
set_option maxRecDepth 100000 in
theorem ok_RB_freeNumber : ∀ x ∈ k_RB_freeNumber, okE R_RB 0 b_RB_freeNumber x := fc e_RB_freeNumber_0 (fc e_RB_freeNumber_2 (fc e_RB_freeNumber_3 (fc e_RB_freeNumber_4 (fc e_RB_freeNumber_6 (fc e_RB_freeNumber_9 (fc e_RB_freeNumber_10 (fc e_RB_freeNumber_13 (fc e_RB_freeNumber_14 (fc e_RB_freeNumber_15 (fc e_RB_freeNumber_18 (fc e_RB_freeNumber_21 (fc e_RB_freeNumber_22 (fc e_RB_freeNumber_23 (fc e_RB_freeNumber_26 (fc e_RB_freeNumber_29 (fc e_RB_freeNumber_30 (fun _ h => absurd h List.not_mem_nil)))))))))))))))))
theorem rt_RB_freeNumber : ∀ x ∈ k_RB_freeNumber, okR 0 x.2.1 = true := by decide +kernel
theorem e_RB_givenIsSafe_0 : okE R_RB 0 b_RB_givenIsSafe (0, (.iconst 0, 1, 0, 0, 0, 0, 0, [])) := ⟨by decide +kernel, rfl, rfl⟩
theorem e_RB_givenIsSafe_1 : okE R_RB 0 b_RB_givenIsSafe (1, (.istore_n 1, 2, 0, 0, 1, 0, 0, [])) := ⟨by decide +kernel, rfl, rfl⟩
theorem e_RB_givenIsSafe_2 : okE R_RB 0 b_RB_givenIsSafe (2, (.aload_n 0, 3, 0, 0, 0, 0, 0, [])) := ⟨by decide +kernel, rfl, rfl⟩
theorem e_RB_givenIsSafe_3 : okE R_RB 0 b_RB_givenIsSafe (3, (.getfield 27, 6, 0, 0, 3, 3, 2, [])) := ⟨by decide +kernel, rfl, ⟨_, _, _, rfl, by decide, wf_RB_27, rfl, rfl⟩⟩
theorem e_RB_givenIsSafe_6 : okE R_RB 0 b_RB_givenIsSafe (6, (.iconst 0, 7, 0, 0, 0, 0, 0, [])) := ⟨by decide +kernel, rfl, rfl⟩
theorem e_RB_givenIsSafe_7 : okE R_RB 0 b_RB_givenIsSafe (7, (.aaload, 8, 0, 0, 0, 0, 0, [])) := ⟨by decide +kernel, rfl, trivial⟩
theorem e_RB_givenIsSafe_8 : okE R_RB 0 b_RB_givenIsSafe (8, (.invokevirtual 67, 11, 0, 0, 0, 0, 0, [])) := ⟨by decide +kernel, rfl, trivial⟩
theorem e_RB_givenIsSafe_11 : okE R_RB 0 b_RB_givenIsSafe (11, (.istore_n 2, 12, 0, 0, 2, 0, 0, [])) := ⟨by decide +kernel, rfl, rfl⟩
theorem e_RB_givenIsSafe_12 : okE R_RB 0 b_RB_givenIsSafe (12, (.iconst 1, 13, 1, 0, 0, 0, 0, [])) := ⟨by decide +kernel, rfl, rfl⟩
theorem e_RB_givenIsSafe_13 : okE R_RB 0 b_RB_givenIsSafe (13, (.istore_n 3, 14, 0, 0, 3, 0, 0, [])) := ⟨by decide +kernel, rfl, rfl⟩
theorem e_RB_givenIsSafe_14 : okE R_RB 0 b_RB_givenIsSafe (14, (.iload_n 3, 15, 0, 0, 3, 0, 0, [])) := ⟨by decide +kernel, rfl, rfl⟩
theorem e_RB_givenIsSafe_15 : okE R_RB 0 b_RB_givenIsSafe (15, (.aload_n 0, 16, 0, 0, 0, 0, 0, [])) := ⟨by decide +kernel, rfl, rfl⟩
theorem e_RB_givenIsSafe_16 : okE R_RB 0 b_RB_givenIsSafe (16, (.getfield 39, 19, 0, 0, 3, 4, 0, [])) := ⟨by decide +kernel, rfl, ⟨_, _, _, rfl, by decide, wf_RB_39, rfl, rfl⟩⟩
theorem e_RB_givenIsSafe_19 : okE R_RB 0 b_RB_givenIsSafe (19, (.if_icmp .ge 48, 22, 0, 0, 67, 0, 0, [])) := ⟨by decide +kernel, rfl, rfl⟩
theorem e_RB_givenIsSafe_22 : okE R_RB 0 b_RB_givenIsSafe (22, (.aload_n 0, 23, 0, 0, 0, 0, 0, [])) := ⟨by decide +kernel, rfl, rfl⟩
theorem e_RB_givenIsSafe_23 : okE R_RB 0 b_RB_givenIsSafe (23, (.getfield 27, 26, 0, 0, 3, 3, 2, [])) := ⟨by decide +kernel, rfl, ⟨_, _, _, rfl, by decide, wf_RB_27, rfl, rfl⟩⟩
theorem e_RB_givenIsSafe_26 : okE R_RB 0 b_RB_givenIsSafe (26, (.iload_n 3, 27, 0, 0, 3, 0, 0, [])) := ⟨by decide +kernel, rfl, rfl⟩
theorem e_RB_givenIsSafe_27 : okE R_RB 0 b_RB_givenIsSafe (27, (.aaload, 28, 0, 0, 0, 0, 0, [])) := ⟨by decide +kernel, rfl, trivial⟩
theorem e_RB_givenIsSafe_28 : okE R_RB 0 b_RB_givenIsSafe (28, (.getfield 70, 31, 0, 0, 5, 3, 3, [])) := ⟨by decide +kernel, rfl, ⟨_, _, _, rfl, by decide, wf_RB_70, rfl, rfl⟩⟩
theorem e_RB_givenIsSafe_31 : okE R_RB 0 b_RB_givenIsSafe (31, (.ifCond .eq 18, 34, 0, 0, 49, 0, 0, [])) := ⟨by decide +kernel, rfl, rfl⟩
theorem e_RB_givenIsSafe_34 : okE R_RB 0 b_RB_givenIsSafe (34, (.iload_n 2, 35, 0, 0, 2, 0, 0, [])) := ⟨by decide +kernel, rfl, rfl⟩
theorem e_RB_givenIsSafe_35 : okE R_RB 0 b_RB_givenIsSafe (35, (.aload_n 0, 36, 0, 0, 0, 0, 0, [])) := ⟨by decide +kernel, rfl, rfl⟩
theorem e_RB_givenIsSafe_36 : okE R_RB 0 b_RB_givenIsSafe (36, (.getfield 27, 39, 0, 0, 3, 3, 2, [])) := ⟨by decide +kernel, rfl, ⟨_, _, _, rfl, by decide, wf_RB_27, rfl, rfl⟩⟩
theorem e_RB_givenIsSafe_39 : okE R_RB 0 b_RB_givenIsSafe (39, (.iload_n 3, 40, 0, 0, 3, 0, 0, [])) := ⟨by decide +kernel, rfl, rfl⟩
theorem e_RB_givenIsSafe_40 : okE R_RB 0 b_RB_givenIsSafe (40, (.aaload, 41, 0, 0, 0, 0, 0, [])) := ⟨by decide +kernel, rfl, trivial⟩
theorem e_RB_givenIsSafe_41 : okE R_RB 0 b_RB_givenIsSafe (41, (.invokevirtual 67, 44, 0, 0, 0, 0, 0, [])) := ⟨by decide +kernel, rfl, trivial⟩
theorem e_RB_givenIsSafe_44 : okE R_RB 0 b_RB_givenIsSafe (44, (.ior, 45, 0, 0, 0, 0, 0, [])) := ⟨by decide +kernel, rfl, trivial⟩
theorem e_RB_givenIsSafe_45 : okE R_RB 0 b_RB_givenIsSafe (45, (.istore_n 2, 46, 0, 0, 2, 0, 0, [])) := ⟨by decide +kernel, rfl, rfl⟩
theorem e_RB_givenIsSafe_46 : okE R_RB 0 b_RB_givenIsSafe (46, (.goto 15, 49, 0, 0, 61, 0, 0, [])) := ⟨by decide +kernel, rfl, rfl⟩
theorem e_RB_givenIsSafe_49 : okE R_RB 0 b_RB_givenIsSafe (49, (.iload_n 1, 50, 0, 0, 1, 0, 0, [])) := ⟨by decide +kernel, rfl, rfl⟩
theorem e_RB_givenIsSafe_50 : okE R_RB 0 b_RB_givenIsSafe (50, (.aload_n 0, 51, 0, 0, 0, 0, 0, [])) := ⟨by decide +kernel, rfl, rfl⟩
theorem e_RB_givenIsSafe_51 : okE R_RB 0 b_RB_givenIsSafe (51, (.getfield 27, 54, 0, 0, 3, 3, 2, [])) := ⟨by decide +kernel, rfl, ⟨_, _, _, rfl, by decide, wf_RB_27, rfl, rfl⟩⟩
theorem e_RB_givenIsSafe_54 : okE R_RB 0 b_RB_givenIsSafe (54, (.iload_n 3, 55, 0, 0, 3, 0, 0, [])) := ⟨by decide +kernel, rfl, rfl⟩
theorem e_RB_givenIsSafe_55 : okE R_RB 0 b_RB_givenIsSafe (55, (.aaload, 56, 0, 0, 0, 0, 0, [])) := ⟨by decide +kernel, rfl, trivial⟩
theorem e_RB_givenIsSafe_56 : okE R_RB 0 b_RB_givenIsSafe (56, (.invokevirtual 67, 59, 0, 0, 0, 0, 0, [])) := ⟨by decide +kernel, rfl, trivial⟩
theorem e_RB_givenIsSafe_59 : okE R_RB 0 b_RB_givenIsSafe (59, (.ior, 60, 0, 0, 0, 0, 0, [])) := ⟨by decide +kernel, rfl, trivial⟩
theorem e_RB_givenIsSafe_60 : okE R_RB 0 b_RB_givenIsSafe (60, (.istore_n 1, 61, 0, 0, 1, 0, 0, [])) := ⟨by decide +kernel, rfl, rfl⟩
theorem e_RB_givenIsSafe_61 : okE R_RB 0 b_RB_givenIsSafe (61, (.iinc 3 1, 64, 1, 0, 3, 0, 0, [])) := ⟨by decide +kernel, rfl, ⟨rfl, rfl⟩⟩
theorem e_RB_givenIsSafe_64 : okE R_RB 0 b_RB_givenIsSafe (64, (.goto (-50), 67, 0, 0, 14, 0, 0, [])) := ⟨by decide +kernel, rfl, rfl⟩
theorem e_RB_givenIsSafe_67 : okE R_RB 0 b_RB_givenIsSafe (67, (.iload_n 2, 68, 0, 0, 2, 0, 0, [])) := ⟨by decide +kernel, rfl, rfl⟩
theorem e_RB_givenIsSafe_68 : okE R_RB 0 b_RB_givenIsSafe (68, (.iload_n 1, 69, 0, 0, 1, 0, 0, [])) := ⟨by decide +kernel, rfl, rfl⟩
theorem e_RB_givenIsSafe_69 : okE R_RB 0 b_RB_givenIsSafe (69, (.iconst (-1), 70, (-1), 0, 0, 0, 0, [])) := ⟨by decide +kernel, rfl, rfl⟩
theorem e_RB_givenIsSafe_70 : okE R_RB 0 b_RB_givenIsSafe (70, (.ixor, 71, 0, 0, 0, 0, 0, [])) := ⟨by decide +kernel, rfl, trivial⟩
theorem e_RB_givenIsSafe_71 : okE R_RB 0 b_RB_givenIsSafe (71, (.iand, 72, 0, 0, 0, 0, 0, [])) := ⟨by decide +kernel, rfl, trivial⟩
theorem e_RB_givenIsSafe_72 : okE R_RB 0 b_RB_givenIsSafe (72, (.ifCond .ne 7, 75, 0, 0, 79, 0, 0, [])) := ⟨by decide +kernel, rfl, rfl⟩
theorem e_RB_givenIsSafe_75 : okE R_RB 0 b_RB_givenIsSafe (75, (.iconst 1, 76, 1, 0, 0, 0, 0, [])) := ⟨by decide +kernel, rfl, rfl⟩
theorem e_RB_givenIsSafe_76 : okE R_RB 0 b_RB_givenIsSafe (76, (.goto 4, 79, 0, 0, 80, 0, 0, [])) := ⟨by decide +kernel, rfl, rfl⟩
theorem e_RB_givenIsSafe_79 : okE R_RB 0 b_RB_givenIsSafe (79, (.iconst 0, 80, 0, 0, 0, 0, 0, [])) := ⟨by decide +kernel, rfl, rfl⟩
theorem e_RB_givenIsSafe_80 : okE R_RB 0 b_RB_givenIsSafe (80, (.ireturn, 81, 0, 0, 0, 0, 0, [])) := ⟨by decide +kernel, rfl, trivial⟩
def k_RB_givenIsSafe : List (Nat × En) := [(0, (.iconst 0, 1, 0, 0, 0, 0, 0, [])), (1, (.istore_n 1, 2, 0, 0, 1, 0, 0, [])), (2, (.aload_n 0, 3, 0, 0, 0, 0, 0, [])), (3, (.getfield 27, 6, 0, 0, 3, 3, 2, [])), (6, (.iconst 0, 7, 0, 0, 0, 0, 0, [])), (7, (.aaload, 8, 0, 0, 0, 0, 0, [])), (8, (.invokevirtual 67, 11, 0, 0, 0, 0, 0, [])), (11, (.istore_n 2, 12, 0, 0, 2, 0, 0, [])), (12, (.iconst 1, 13, 1, 0, 0, 0, 0, [])), (13, (.istore_n 3, 14, 0, 0, 3, 0, 0, [])), (14, (.iload_n 3, 15, 0, 0, 3, 0, 0, [])), (15, (.aload_n 0, 16, 0, 0, 0, 0, 0, [])), (16, (.getfield 39, 19, 0, 0, 3, 4, 0, [])), (19, (.if_icmp .ge 48, 22, 0, 0, 67, 0, 0, [])), (22, (.aload_n 0, 23, 0, 0, 0, 0, 0, [])), (23, (.getfield 27, 26, 0, 0, 3, 3, 2, [])), (26, (.iload_n 3, 27, 0, 0, 3, 0, 0, [])), (27, (.aaload, 28, 0, 0, 0, 0, 0, [])), (28, (.getfield 70, 31, 0, 0, 5, 3, 3, [])), (31, (.ifCond .eq 18, 34, 0, 0, 49, 0, 0, [])), (34, (.iload_n 2, 35, 0, 0, 2, 0, 0, [])), (35, (.aload_n 0, 36, 0, 0, 0, 0, 0, [])), (36, (.getfield 27, 39, 0, 0, 3, 3, 2, [])), (39, (.iload_n 3, 40, 0, 0, 3, 0, 0, [])), (40, (.aaload, 41, 0, 0, 0, 0, 0, [])), (41, (.invokevirtual 67, 44, 0, 0, 0, 0, 0, [])), (44, (.ior, 45, 0, 0, 0, 0, 0, [])), (45, (.istore_n 2, 46, 0, 0, 2, 0, 0, [])), (46, (.goto 15, 49, 0, 0, 61, 0, 0, [])), (49, (.iload_n 1, 50, 0, 0, 1, 0, 0, [])), (50, (.aload_n 0, 51, 0, 0, 0, 0, 0, [])), (51, (.getfield 27, 54, 0, 0, 3, 3, 2, [])), (54, (.iload_n 3, 55, 0, 0, 3, 0, 0, [])), (55, (.aaload, 56, 0, 0, 0, 0, 0, [])), (56, (.invokevirtual 67, 59, 0, 0, 0, 0, 0, [])), (59, (.ior, 60, 0, 0, 0, 0, 0, [])), (60, (.istore_n 1, 61, 0, 0, 1, 0, 0, [])), (61, (.iinc 3 1, 64, 1, 0, 3, 0, 0, [])), (64, (.goto (-50), 67, 0, 0, 14, 0, 0, [])), (67, (.iload_n 2, 68, 0, 0, 2, 0, 0, [])), (68, (.iload_n 1, 69, 0, 0, 1, 0, 0, [])), (69, (.iconst (-1), 70, (-1), 0, 0, 0, 0, [])), (70, (.ixor, 71, 0, 0, 0, 0, 0, [])), (71, (.iand, 72, 0, 0, 0, 0, 0, [])), (72, (.ifCond .ne 7, 75, 0, 0, 79, 0, 0, [])), (75, (.iconst 1, 76, 1, 0, 0, 0, 0, [])), (76, (.goto 4, 79, 0, 0, 80, 0, 0, [])), (79, (.iconst 0, 80, 0, 0, 0, 0, 0, [])), (80, (.ireturn, 81, 0, 0, 0, 0, 0, []))]
set_option maxRecDepth 100000 in
theorem ok_RB_givenIsSafe : ∀ x ∈ k_RB_givenIsSafe, okE R_RB 0 b_RB_givenIsSafe x := fc e_RB_givenIsSafe_0 (fc e_RB_givenIsSafe_1 (fc e_RB_givenIsSafe_2 (fc e_RB_givenIsSafe_3 (fc e_RB_givenIsSafe_6 (fc e_RB_givenIsSafe_7 (fc e_RB_givenIsSafe_8 (fc e_RB_givenIsSafe_11 (fc e_RB_givenIsSafe_12 (fc e_RB_givenIsSafe_13 (fc e_RB_givenIsSafe_14 (fc e_RB_givenIsSafe_15 (fc e_RB_givenIsSafe_16 (fc e_RB_givenIsSafe_19 (fc e_RB_givenIsSafe_22 (fc e_RB_givenIsSafe_23 (fc e_RB_givenIsSafe_26 (fc e_RB_givenIsSafe_27 (fc e_RB_givenIsSafe_28 (fc e_RB_givenIsSafe_31 (fc e_RB_givenIsSafe_34 (fc e_RB_givenIsSafe_35 (fc e_RB_givenIsSafe_36 (fc e_RB_givenIsSafe_39 (fc e_RB_givenIsSafe_40 (fc e_RB_givenIsSafe_41 (fc e_RB_givenIsSafe_44 (fc e_RB_givenIsSafe_45 (fc e_RB_givenIsSafe_46 (fc e_RB_givenIsSafe_49 (fc e_RB_givenIsSafe_50 (fc e_RB_givenIsSafe_51 (fc e_RB_givenIsSafe_54 (fc e_RB_givenIsSafe_55 (fc e_RB_givenIsSafe_56 (fc e_RB_givenIsSafe_59 (fc e_RB_givenIsSafe_60 (fc e_RB_givenIsSafe_61 (fc e_RB_givenIsSafe_64 (fc e_RB_givenIsSafe_67 (fc e_RB_givenIsSafe_68 (fc e_RB_givenIsSafe_69 (fc e_RB_givenIsSafe_70 (fc e_RB_givenIsSafe_71 (fc e_RB_givenIsSafe_72 (fc e_RB_givenIsSafe_75 (fc e_RB_givenIsSafe_76 (fc e_RB_givenIsSafe_79 (fc e_RB_givenIsSafe_80 (fun _ h => absurd h List.not_mem_nil)))))))))))))))))))))))))))))))))))))))))))))))))
theorem rt_RB_givenIsSafe : ∀ x ∈ k_RB_givenIsSafe, okR 1 x.2.1 = true := by decide +kernel
theorem e_RB_stratify_0 : okE R_RB 0 b_RB_stratify (0, (.aload_n 0, 1, 0, 0, 0, 0, 0, [])) := ⟨by decide +kernel, rfl, rfl⟩
theorem e_RB_stratify_1 : okE R_RB 0 b_RB_stratify (1, (.getfield 22, 4, 0, 0, 3, 2, 2, [])) := ⟨by decide +kernel, rfl, ⟨_, _, _, rfl, by decide, wf_RB_22, rfl, rfl⟩⟩
theorem e_RB_stratify_4 : okE R_RB 0 b_RB_stratify (4, (.iconst 0, 5, 0, 0, 0, 0, 0, [])) := ⟨by decide +kernel, rfl, rfl⟩
theorem e_RB_stratify_5 : okE R_RB 0 b_RB_stratify (5, (.invokestatic 84, 8, 0, 0, 0, 0, 0, [])) := ⟨by decide +kernel, rfl, trivial⟩
theorem e_RB_stratify_8 : okE R_RB 0 b_RB_stratify (8, (.iconst 0, 9, 0, 0, 0, 0, 0, [])) := ⟨by decide +kernel, rfl, rfl⟩
theorem e_RB_stratify_9 : okE R_RB 0 b_RB_stratify (9, (.istore_n 1, 10, 0, 0, 1, 0, 0, [])) := ⟨by decide +kernel, rfl, rfl⟩
theorem e_RB_stratify_10 : okE R_RB 0 b_RB_stratify (10, (.iload_n 1, 11, 0, 0, 1, 0, 0, [])) := ⟨by decide +kernel, rfl, rfl⟩
theorem e_RB_stratify_11 : okE R_RB 0 b_RB_stratify (11, (.bipush 14, 13, 14, 0, 0, 0, 0, [])) := ⟨by decide +kernel, rfl, rfl⟩
theorem e_RB_stratify_13 : okE R_RB 0 b_RB_stratify (13, (.if_icmp .ge 33, 16, 0, 0, 46, 0, 0, [])) := ⟨by decide +kernel, rfl, rfl⟩
theorem e_RB_stratify_16 : okE R_RB 0 b_RB_stratify (16, (.aload_n 0, 17, 0, 0, 0, 0, 0, [])) := ⟨by decide +kernel, rfl, rfl⟩
theorem e_RB_stratify_17 : okE R_RB 0 b_RB_stratify (17, (.invokevirtual 90, 20, 0, 0, 1, 0, 0, [])) := ⟨by decide +kernel, rfl, trivial⟩
theorem e_RB_stratify_20 : okE R_RB 0 b_RB_stratify (20, (.ifCond .ne 20, 23, 0, 0, 40, 0, 0, [])) := ⟨by decide +kernel, rfl, rfl⟩
theorem e_RB_stratify_23 : okE R_RB 0 b_RB_stratify (23, (.aload_n 0, 24, 0, 0, 0, 0, 0, [])) := ⟨by decide +kernel, rfl, rfl⟩
theorem e_RB_stratify_24 : okE R_RB 0 b_RB_stratify (24, (.getfield 22, 27, 0, 0, 3, 2, 2, [])) := ⟨by decide +kernel, rfl, ⟨_, _, _, rfl, by decide, wf_RB_22, rfl, rfl⟩⟩
theorem e_RB_stratify_27 : okE R_RB 0 b_RB_stratify (27, (.iconst 0, 28, 0, 0, 0, 0, 0, [])) := ⟨by decide +kernel, rfl, rfl⟩
theorem e_RB_stratify_28 : okE R_RB 0 b_RB_stratify (28, (.aload_n 0, 29, 0, 0, 0, 0, 0, [])) := ⟨by decide +kernel, rfl, rfl⟩
theorem e_RB_stratify_29 : okE R_RB 0 b_RB_stratify (29, (.getfield 18, 32, 0, 0, 3, 1, 2, [])) := ⟨by decide +kernel, rfl, ⟨_, _, _, rfl, by decide, wf_RB_18, rfl, rfl⟩⟩
theorem e_RB_stratify_32 : okE R_RB 0 b_RB_stratify (32, (.iconst 0, 33, 0, 0, 0, 0, 0, [])) := ⟨by decide +kernel, rfl, rfl⟩
theorem e_RB_stratify_33 : okE R_RB 0 b_RB_stratify (33, (.bipush 14, 35, 14, 0, 0, 0, 0, [])) := ⟨by decide +kernel, rfl, rfl⟩
theorem e_RB_stratify_35 : okE R_RB 0 b_RB_stratify (35, (.invokestatic 93, 38, 0, 0, 2, 0, 0, [])) := ⟨by decide +kernel, rfl, trivial⟩
theorem e_RB_stratify_38 : okE R_RB 0 b_RB_stratify (38, (.iconst 1, 39, 1, 0, 0, 0, 0, [])) := ⟨by decide +kernel, rfl, rfl⟩
theorem e_RB_stratify_39 : okE R_RB 0 b_RB_stratify (39, (.ireturn, 40, 0, 0, 0, 0, 0, [])) := ⟨by decide +kernel, rfl, trivial⟩
theorem e_RB_stratify_40 : okE R_RB 0 b_RB_stratify (40, (.iinc 1 1, 43, 1, 0, 1, 0, 0, [])) := ⟨by decide +kernel, rfl, ⟨rfl, rfl⟩⟩
theorem e_RB_stratify_43 : okE R_RB 0 b_RB_stratify (43, (.goto (-33), 46, 0, 0, 10, 0, 0, [])) := ⟨by decide +kernel, rfl, rfl⟩
theorem e_RB_stratify_46 : okE R_RB 0 b_RB_stratify (46, (.iconst 0, 47, 0, 0, 0, 0, 0, [])) := ⟨by decide +kernel, rfl, rfl⟩
theorem e_RB_stratify_47 : okE R_RB 0 b_RB_stratify (47, (.ireturn, 48, 0, 0, 0, 0, 0, [])) := ⟨by decide +kernel, rfl, trivial⟩
def k_RB_stratify : List (Nat × En) := [(0, (.aload_n 0, 1, 0, 0, 0, 0, 0, [])), (1, (.getfield 22, 4, 0, 0, 3, 2, 2, [])), (4, (.iconst 0, 5, 0, 0, 0, 0, 0, [])), (5, (.invokestatic 84, 8, 0, 0, 0, 0, 0, [])), (8, (.iconst 0, 9, 0, 0, 0, 0, 0, [])), (9, (.istore_n 1, 10, 0, 0, 1, 0, 0, [])), (10, (.iload_n 1, 11, 0, 0, 1, 0, 0, [])), (11, (.bipush 14, 13, 14, 0, 0, 0, 0, [])), (13, (.if_icmp .ge 33, 16, 0, 0, 46, 0, 0, [])), (16, (.aload_n 0, 17, 0, 0, 0, 0, 0, [])), (17, (.invokevirtual 90, 20, 0, 0, 1, 0, 0, [])), (20, (.ifCond .ne 20, 23, 0, 0, 40, 0, 0, [])), (23, (.aload_n 0, 24, 0, 0, 0, 0, 0, [])), (24, (.getfield 22, 27, 0, 0, 3, 2, 2, [])), (27, (.iconst 0, 28, 0, 0, 0, 0, 0, [])), (28, (.aload_n 0, 29, 0, 0, 0, 0, 0, [])), (29, (.getfield 18, 32, 0, 0, 3, 1, 2, [])), (32, (.iconst 0, 33, 0, 0, 0, 0, 0, [])), (33, (.bipush 14, 35, 14, 0, 0, 0, 0, [])), (35, (.invokestatic 93, 38, 0, 0, 2, 0, 0, [])), (38, (.iconst 1, 39, 1, 0, 0, 0, 0, [])), (39, (.ireturn, 40, 0, 0, 0, 0, 0, [])), (40, (.iinc 1 1, 43, 1, 0, 1, 0, 0, [])), (43, (.goto (-33), 46, 0, 0, 10, 0, 0, [])), (46, (.iconst 0, 47, 0, 0, 0, 0, 0, [])), (47, (.ireturn, 48, 0, 0, 0, 0, 0, []))]
set_option maxRecDepth 100000 in
theorem ok_RB_stratify : ∀ x ∈ k_RB_stratify, okE R_RB 0 b_RB_stratify x := fc e_RB_stratify_0 (fc e_RB_stratify_1 (fc e_RB_stratify_4 (fc e_RB_stratify_5 (fc e_RB_stratify_8 (fc e_RB_stratify_9 (fc e_RB_stratify_10 (fc e_RB_stratify_11 (fc e_RB_stratify_13 (fc e_RB_stratify_16 (fc e_RB_stratify_17 (fc e_RB_stratify_20 (fc e_RB_stratify_23 (fc e_RB_stratify_24 (fc e_RB_stratify_27 (fc e_RB_stratify_28 (fc e_RB_stratify_29 (fc e_RB_stratify_32 (fc e_RB_stratify_33 (fc e_RB_stratify_35 (fc e_RB_stratify_38 (fc e_RB_stratify_39 (fc e_RB_stratify_40 (fc e_RB_stratify_43 (fc e_RB_stratify_46 (fc e_RB_stratify_47 (fun _ h => absurd h List.not_mem_nil))))))))))))))))))))))))))
theorem rt_RB_stratify : ∀ x ∈ k_RB_stratify, okR 1 x.2.1 = true := by decide +kernel
theorem e_RB_raiseHeads_0 : okE R_RB 0 b_RB_raiseHeads (0, (.iconst 0, 1, 0, 0, 0, 0, 0, [])) := ⟨by decide +kernel, rfl, rfl⟩
theorem e_RB_raiseHeads_1 : okE R_RB 0 b_RB_raiseHeads (1, (.istore_n 1, 2, 0, 0, 1, 0, 0, [])) := ⟨by decide +kernel, rfl, rfl⟩
theorem e_RB_raiseHeads_2 : okE R_RB 0 b_RB_raiseHeads (2, (.iconst 0, 3, 0, 0, 0, 0, 0, [])) := ⟨by decide +kernel, rfl, rfl⟩
theorem e_RB_raiseHeads_3 : okE R_RB 0 b_RB_raiseHeads (3, (.istore_n 2, 4, 0, 0, 2, 0, 0, [])) := ⟨by decide +kernel, rfl, rfl⟩
theorem e_RB_raiseHeads_4 : okE R_RB 0 b_RB_raiseHeads (4, (.iload_n 2, 5, 0, 0, 2, 0, 0, [])) := ⟨by decide +kernel, rfl, rfl⟩
theorem e_RB_raiseHeads_5 : okE R_RB 0 b_RB_raiseHeads (5, (.bipush 14, 7, 14, 0, 0, 0, 0, [])) := ⟨by decide +kernel, rfl, rfl⟩
theorem e_RB_raiseHeads_7 : okE R_RB 0 b_RB_raiseHeads (7, (.if_icmp .ge 36, 10, 0, 0, 43, 0, 0, [])) := ⟨by decide +kernel, rfl, rfl⟩
theorem e_RB_raiseHeads_10 : okE R_RB 0 b_RB_raiseHeads (10, (.aload_n 0, 11, 0, 0, 0, 0, 0, [])) := ⟨by decide +kernel, rfl, rfl⟩
theorem e_RB_raiseHeads_11 : okE R_RB 0 b_RB_raiseHeads (11, (.getfield 11, 14, 0, 0, 3, 0, 2, [])) := ⟨by decide +kernel, rfl, ⟨_, _, _, rfl, by decide, wf_RB_11, rfl, rfl⟩⟩
theorem e_RB_raiseHeads_14 : okE R_RB 0 b_RB_raiseHeads (14, (.iload_n 2, 15, 0, 0, 2, 0, 0, [])) := ⟨by decide +kernel, rfl, rfl⟩
theorem e_RB_raiseHeads_15 : okE R_RB 0 b_RB_raiseHeads (15, (.aaload, 16, 0, 0, 0, 0, 0, [])) := ⟨by decide +kernel, rfl, trivial⟩
theorem e_RB_raiseHeads_16 : okE R_RB 0 b_RB_raiseHeads (16, (.getfield 74, 19, 0, 0, 4, 4, 3, [])) := ⟨by decide +kernel, rfl, ⟨_, _, _, rfl, by decide, wf_RB_74, rfl, rfl⟩⟩
theorem e_RB_raiseHeads_19 : okE R_RB 0 b_RB_raiseHeads (19, (.ifCond .eq 18, 22, 0, 0, 37, 0, 0, [])) := ⟨by decide +kernel, rfl, rfl⟩
theorem e_RB_raiseHeads_22 : okE R_RB 0 b_RB_raiseHeads (22, (.aload_n 0, 23, 0, 0, 0, 0, 0, [])) := ⟨by decide +kernel, rfl, rfl⟩
theorem e_RB_raiseHeads_23 : okE R_RB 0 b_RB_raiseHeads (23, (.aload_n 0, 24, 0, 0, 0, 0, 0, [])) := ⟨by decide +kernel, rfl, rfl⟩
theorem e_RB_raiseHeads_24 : okE R_RB 0 b_RB_raiseHeads (24, (.getfield 11, 27, 0, 0, 3, 0, 2, [])) := ⟨by decide +kernel, rfl, ⟨_, _, _, rfl, by decide, wf_RB_11, rfl, rfl⟩⟩
theorem e_RB_raiseHeads_27 : okE R_RB 0 b_RB_raiseHeads (27, (.iload_n 2, 28, 0, 0, 2, 0, 0, [])) := ⟨by decide +kernel, rfl, rfl⟩
theorem e_RB_raiseHeads_28 : okE R_RB 0 b_RB_raiseHeads (28, (.aaload, 29, 0, 0, 0, 0, 0, [])) := ⟨by decide +kernel, rfl, trivial⟩
theorem e_RB_raiseHeads_29 : okE R_RB 0 b_RB_raiseHeads (29, (.invokevirtual 99, 32, 0, 0, 0, 0, 0, [])) := ⟨by decide +kernel, rfl, trivial⟩
theorem e_RB_raiseHeads_32 : okE R_RB 0 b_RB_raiseHeads (32, (.ifCond .eq 5, 35, 0, 0, 37, 0, 0, [])) := ⟨by decide +kernel, rfl, rfl⟩
theorem e_RB_raiseHeads_35 : okE R_RB 0 b_RB_raiseHeads (35, (.iconst 1, 36, 1, 0, 0, 0, 0, [])) := ⟨by decide +kernel, rfl, rfl⟩
theorem e_RB_raiseHeads_36 : okE R_RB 0 b_RB_raiseHeads (36, (.istore_n 1, 37, 0, 0, 1, 0, 0, [])) := ⟨by decide +kernel, rfl, rfl⟩
theorem e_RB_raiseHeads_37 : okE R_RB 0 b_RB_raiseHeads (37, (.iinc 2 1, 40, 1, 0, 2, 0, 0, [])) := ⟨by decide +kernel, rfl, ⟨rfl, rfl⟩⟩
theorem e_RB_raiseHeads_40 : okE R_RB 0 b_RB_raiseHeads (40, (.goto (-36), 43, 0, 0, 4, 0, 0, [])) := ⟨by decide +kernel, rfl, rfl⟩
theorem e_RB_raiseHeads_43 : okE R_RB 0 b_RB_raiseHeads (43, (.iload_n 1, 44, 0, 0, 1, 0, 0, [])) := ⟨by decide +kernel, rfl, rfl⟩
theorem e_RB_raiseHeads_44 : okE R_RB 0 b_RB_raiseHeads (44, (.ireturn, 45, 0, 0, 0, 0, 0, [])) := ⟨by decide +kernel, rfl, trivial⟩
def k_RB_raiseHeads : List (Nat × En) := [(0, (.iconst 0, 1, 0, 0, 0, 0, 0, [])), (1, (.istore_n 1, 2, 0, 0, 1, 0, 0, [])), (2, (.iconst 0, 3, 0, 0, 0, 0, 0, [])), (3, (.istore_n 2, 4, 0, 0, 2, 0, 0, [])), (4, (.iload_n 2, 5, 0, 0, 2, 0, 0, [])), (5, (.bipush 14, 7, 14, 0, 0, 0, 0, [])), (7, (.if_icmp .ge 36, 10, 0, 0, 43, 0, 0, [])), (10, (.aload_n 0, 11, 0, 0, 0, 0, 0, [])), (11, (.getfield 11, 14, 0, 0, 3, 0, 2, [])), (14, (.iload_n 2, 15, 0, 0, 2, 0, 0, [])), (15, (.aaload, 16, 0, 0, 0, 0, 0, [])), (16, (.getfield 74, 19, 0, 0, 4, 4, 3, [])), (19, (.ifCond .eq 18, 22, 0, 0, 37, 0, 0, [])), (22, (.aload_n 0, 23, 0, 0, 0, 0, 0, [])), (23, (.aload_n 0, 24, 0, 0, 0, 0, 0, [])), (24, (.getfield 11, 27, 0, 0, 3, 0, 2, [])), (27, (.iload_n 2, 28, 0, 0, 2, 0, 0, [])), (28, (.aaload, 29, 0, 0, 0, 0, 0, [])), (29, (.invokevirtual 99, 32, 0, 0, 0, 0, 0, [])), (32, (.ifCond .eq 5, 35, 0, 0, 37, 0, 0, [])), (35, (.iconst 1, 36, 1, 0, 0, 0, 0, [])), (36, (.istore_n 1, 37, 0, 0, 1, 0, 0, [])), (37, (.iinc 2 1, 40, 1, 0, 2, 0, 0, [])), (40, (.goto (-36), 43, 0, 0, 4, 0, 0, [])), (43, (.iload_n 1, 44, 0, 0, 1, 0, 0, [])), (44, (.ireturn, 45, 0, 0, 0, 0, 0, []))]
set_option maxRecDepth 100000 in
theorem ok_RB_raiseHeads : ∀ x ∈ k_RB_raiseHeads, okE R_RB 0 b_RB_raiseHeads x := fc e_RB_raiseHeads_0 (fc e_RB_raiseHeads_1 (fc e_RB_raiseHeads_2 (fc e_RB_raiseHeads_3 (fc e_RB_raiseHeads_4 (fc e_RB_raiseHeads_5 (fc e_RB_raiseHeads_7 (fc e_RB_raiseHeads_10 (fc e_RB_raiseHeads_11 (fc e_RB_raiseHeads_14 (fc e_RB_raiseHeads_15 (fc e_RB_raiseHeads_16 (fc e_RB_raiseHeads_19 (fc e_RB_raiseHeads_22 (fc e_RB_raiseHeads_23 (fc e_RB_raiseHeads_24 (fc e_RB_raiseHeads_27 (fc e_RB_raiseHeads_28 (fc e_RB_raiseHeads_29 (fc e_RB_raiseHeads_32 (fc e_RB_raiseHeads_35 (fc e_RB_raiseHeads_36 (fc e_RB_raiseHeads_37 (fc e_RB_raiseHeads_40 (fc e_RB_raiseHeads_43 (fc e_RB_raiseHeads_44 (fun _ h => absurd h List.not_mem_nil))))))))))))))))))))))))))
theorem rt_RB_raiseHeads : ∀ x ∈ k_RB_raiseHeads, okR 1 x.2.1 = true := by decide +kernel
theorem e_RB_raiseHead_0 : okE R_RB 0 b_RB_raiseHead (0, (.iconst 0, 1, 0, 0, 0, 0, 0, [])) := ⟨by decide +kernel, rfl, rfl⟩
theorem e_RB_raiseHead_1 : okE R_RB 0 b_RB_raiseHead (1, (.istore_n 2, 2, 0, 0, 2, 0, 0, [])) := ⟨by decide +kernel, rfl, rfl⟩
theorem e_RB_raiseHead_2 : okE R_RB 0 b_RB_raiseHead (2, (.iconst 0, 3, 0, 0, 0, 0, 0, [])) := ⟨by decide +kernel, rfl, rfl⟩
theorem e_RB_raiseHead_3 : okE R_RB 0 b_RB_raiseHead (3, (.istore_n 3, 4, 0, 0, 3, 0, 0, [])) := ⟨by decide +kernel, rfl, rfl⟩
theorem e_RB_raiseHead_4 : okE R_RB 0 b_RB_raiseHead (4, (.iload_n 3, 5, 0, 0, 3, 0, 0, [])) := ⟨by decide +kernel, rfl, rfl⟩
theorem e_RB_raiseHead_5 : okE R_RB 0 b_RB_raiseHead (5, (.aload_n 1, 6, 0, 0, 1, 0, 0, [])) := ⟨by decide +kernel, rfl, rfl⟩
theorem e_RB_raiseHead_6 : okE R_RB 0 b_RB_raiseHead (6, (.getfield 103, 9, 0, 0, 4, 2, 0, [])) := ⟨by decide +kernel, rfl, ⟨_, _, _, rfl, by decide, wf_RB_103, rfl, rfl⟩⟩
theorem e_RB_raiseHead_9 : okE R_RB 0 b_RB_raiseHead (9, (.if_icmp .ge 46, 12, 0, 0, 55, 0, 0, [])) := ⟨by decide +kernel, rfl, rfl⟩
theorem e_RB_raiseHead_12 : okE R_RB 0 b_RB_raiseHead (12, (.aload_n 1, 13, 0, 0, 1, 0, 0, [])) := ⟨by decide +kernel, rfl, rfl⟩
theorem e_RB_raiseHead_13 : okE R_RB 0 b_RB_raiseHead (13, (.getfield 106, 16, 0, 0, 4, 1, 2, [])) := ⟨by decide +kernel, rfl, ⟨_, _, _, rfl, by decide, wf_RB_106, rfl, rfl⟩⟩
theorem e_RB_raiseHead_16 : okE R_RB 0 b_RB_raiseHead (16, (.iload_n 3, 17, 0, 0, 3, 0, 0, [])) := ⟨by decide +kernel, rfl, rfl⟩
theorem e_RB_raiseHead_17 : okE R_RB 0 b_RB_raiseHead (17, (.aaload, 18, 0, 0, 0, 0, 0, [])) := ⟨by decide +kernel, rfl, trivial⟩
theorem e_RB_raiseHead_18 : okE R_RB 0 b_RB_raiseHead (18, (.astore 4, 20, 0, 0, 4, 0, 0, [])) := ⟨by decide +kernel, rfl, rfl⟩
theorem e_RB_raiseHead_20 : okE R_RB 0 b_RB_raiseHead (20, (.iload_n 2, 21, 0, 0, 2, 0, 0, [])) := ⟨by decide +kernel, rfl, rfl⟩
theorem e_RB_raiseHead_21 : okE R_RB 0 b_RB_raiseHead (21, (.aload_n 0, 22, 0, 0, 0, 0, 0, [])) := ⟨by decide +kernel, rfl, rfl⟩
theorem e_RB_raiseHead_22 : okE R_RB 0 b_RB_raiseHead (22, (.getfield 22, 25, 0, 0, 3, 2, 2, [])) := ⟨by decide +kernel, rfl, ⟨_, _, _, rfl, by decide, wf_RB_22, rfl, rfl⟩⟩
theorem e_RB_raiseHead_25 : okE R_RB 0 b_RB_raiseHead (25, (.aload 4, 27, 0, 0, 4, 0, 0, [])) := ⟨by decide +kernel, rfl, rfl⟩
theorem e_RB_raiseHead_27 : okE R_RB 0 b_RB_raiseHead (27, (.getfield 81, 30, 0, 0, 5, 0, 0, [])) := ⟨by decide +kernel, rfl, ⟨_, _, _, rfl, by decide, wf_RB_81, rfl, rfl⟩⟩
theorem e_RB_raiseHead_30 : okE R_RB 0 b_RB_raiseHead (30, (.iaload, 31, 0, 0, 0, 0, 0, [])) := ⟨by decide +kernel, rfl, trivial⟩
theorem e_RB_raiseHead_31 : okE R_RB 0 b_RB_raiseHead (31, (.aload 4, 33, 0, 0, 4, 0, 0, [])) := ⟨by decide +kernel, rfl, rfl⟩
theorem e_RB_raiseHead_33 : okE R_RB 0 b_RB_raiseHead (33, (.getfield 70, 36, 0, 0, 5, 3, 3, [])) := ⟨by decide +kernel, rfl, ⟨_, _, _, rfl, by decide, wf_RB_70, rfl, rfl⟩⟩
theorem e_RB_raiseHead_36 : okE R_RB 0 b_RB_raiseHead (36, (.ifCond .eq 7, 39, 0, 0, 43, 0, 0, [])) := ⟨by decide +kernel, rfl, rfl⟩
theorem e_RB_raiseHead_39 : okE R_RB 0 b_RB_raiseHead (39, (.iconst 1, 40, 1, 0, 0, 0, 0, [])) := ⟨by decide +kernel, rfl, rfl⟩
theorem e_RB_raiseHead_40 : okE R_RB 0 b_RB_raiseHead (40, (.goto 4, 43, 0, 0, 44, 0, 0, [])) := ⟨by decide +kernel, rfl, rfl⟩
theorem e_RB_raiseHead_43 : okE R_RB 0 b_RB_raiseHead (43, (.iconst 0, 44, 0, 0, 0, 0, 0, [])) := ⟨by decide +kernel, rfl, rfl⟩
theorem e_RB_raiseHead_44 : okE R_RB 0 b_RB_raiseHead (44, (.iadd, 45, 0, 0, 0, 0, 0, [])) := ⟨by decide +kernel, rfl, trivial⟩
theorem e_RB_raiseHead_45 : okE R_RB 0 b_RB_raiseHead (45, (.invokestatic 109, 48, 0, 0, 0, 0, 0, [])) := ⟨by decide +kernel, rfl, trivial⟩
theorem e_RB_raiseHead_48 : okE R_RB 0 b_RB_raiseHead (48, (.istore_n 2, 49, 0, 0, 2, 0, 0, [])) := ⟨by decide +kernel, rfl, rfl⟩
theorem e_RB_raiseHead_49 : okE R_RB 0 b_RB_raiseHead (49, (.iinc 3 1, 52, 1, 0, 3, 0, 0, [])) := ⟨by decide +kernel, rfl, ⟨rfl, rfl⟩⟩
theorem e_RB_raiseHead_52 : okE R_RB 0 b_RB_raiseHead (52, (.goto (-48), 55, 0, 0, 4, 0, 0, [])) := ⟨by decide +kernel, rfl, rfl⟩
theorem e_RB_raiseHead_55 : okE R_RB 0 b_RB_raiseHead (55, (.aload_n 0, 56, 0, 0, 0, 0, 0, [])) := ⟨by decide +kernel, rfl, rfl⟩
theorem e_RB_raiseHead_56 : okE R_RB 0 b_RB_raiseHead (56, (.getfield 22, 59, 0, 0, 3, 2, 2, [])) := ⟨by decide +kernel, rfl, ⟨_, _, _, rfl, by decide, wf_RB_22, rfl, rfl⟩⟩
theorem e_RB_raiseHead_59 : okE R_RB 0 b_RB_raiseHead (59, (.aload_n 1, 60, 0, 0, 1, 0, 0, [])) := ⟨by decide +kernel, rfl, rfl⟩
theorem e_RB_raiseHead_60 : okE R_RB 0 b_RB_raiseHead (60, (.getfield 77, 63, 0, 0, 4, 0, 2, [])) := ⟨by decide +kernel, rfl, ⟨_, _, _, rfl, by decide, wf_RB_77, rfl, rfl⟩⟩
theorem e_RB_raiseHead_63 : okE R_RB 0 b_RB_raiseHead (63, (.getfield 81, 66, 0, 0, 5, 0, 0, [])) := ⟨by decide +kernel, rfl, ⟨_, _, _, rfl, by decide, wf_RB_81, rfl, rfl⟩⟩
theorem e_RB_raiseHead_66 : okE R_RB 0 b_RB_raiseHead (66, (.iaload, 67, 0, 0, 0, 0, 0, [])) := ⟨by decide +kernel, rfl, trivial⟩
theorem e_RB_raiseHead_67 : okE R_RB 0 b_RB_raiseHead (67, (.iload_n 2, 68, 0, 0, 2, 0, 0, [])) := ⟨by decide +kernel, rfl, rfl⟩
theorem e_RB_raiseHead_68 : okE R_RB 0 b_RB_raiseHead (68, (.if_icmp .lt 5, 71, 0, 0, 73, 0, 0, [])) := ⟨by decide +kernel, rfl, rfl⟩
theorem e_RB_raiseHead_71 : okE R_RB 0 b_RB_raiseHead (71, (.iconst 0, 72, 0, 0, 0, 0, 0, [])) := ⟨by decide +kernel, rfl, rfl⟩
theorem e_RB_raiseHead_72 : okE R_RB 0 b_RB_raiseHead (72, (.ireturn, 73, 0, 0, 0, 0, 0, [])) := ⟨by decide +kernel, rfl, trivial⟩
theorem e_RB_raiseHead_73 : okE R_RB 0 b_RB_raiseHead (73, (.aload_n 0, 74, 0, 0, 0, 0, 0, [])) := ⟨by decide +kernel, rfl, rfl⟩
theorem e_RB_raiseHead_74 : okE R_RB 0 b_RB_raiseHead (74, (.getfield 22, 77, 0, 0, 3, 2, 2, [])) := ⟨by decide +kernel, rfl, ⟨_, _, _, rfl, by decide, wf_RB_22, rfl, rfl⟩⟩
theorem e_RB_raiseHead_77 : okE R_RB 0 b_RB_raiseHead (77, (.aload_n 1, 78, 0, 0, 1, 0, 0, [])) := ⟨by decide +kernel, rfl, rfl⟩
theorem e_RB_raiseHead_78 : okE R_RB 0 b_RB_raiseHead (78, (.getfield 77, 81, 0, 0, 4, 0, 2, [])) := ⟨by decide +kernel, rfl, ⟨_, _, _, rfl, by decide, wf_RB_77, rfl, rfl⟩⟩
theorem e_RB_raiseHead_81 : okE R_RB 0 b_RB_raiseHead (81, (.getfield 81, 84, 0, 0, 5, 0, 0, [])) := ⟨by decide +kernel, rfl, ⟨_, _, _, rfl, by decide, wf_RB_81, rfl, rfl⟩⟩
theorem e_RB_raiseHead_84 : okE R_RB 0 b_RB_raiseHead (84, (.iload_n 2, 85, 0, 0, 2, 0, 0, [])) := ⟨by decide +kernel, rfl, rfl⟩
theorem e_RB_raiseHead_85 : okE R_RB 0 b_RB_raiseHead (85, (.iastore, 86, 0, 0, 0, 0, 0, [])) := ⟨by decide +kernel, rfl, trivial⟩
theorem e_RB_raiseHead_86 : okE R_RB 0 b_RB_raiseHead (86, (.iconst 1, 87, 1, 0, 0, 0, 0, [])) := ⟨by decide +kernel, rfl, rfl⟩
theorem e_RB_raiseHead_87 : okE R_RB 0 b_RB_raiseHead (87, (.ireturn, 88, 0, 0, 0, 0, 0, [])) := ⟨by decide +kernel, rfl, trivial⟩
def k_RB_raiseHead : List (Nat × En) := [(0, (.iconst 0, 1, 0, 0, 0, 0, 0, [])), (1, (.istore_n 2, 2, 0, 0, 2, 0, 0, [])), (2, (.iconst 0, 3, 0, 0, 0, 0, 0, [])), (3, (.istore_n 3, 4, 0, 0, 3, 0, 0, [])), (4, (.iload_n 3, 5, 0, 0, 3, 0, 0, [])), (5, (.aload_n 1, 6, 0, 0, 1, 0, 0, [])), (6, (.getfield 103, 9, 0, 0, 4, 2, 0, [])), (9, (.if_icmp .ge 46, 12, 0, 0, 55, 0, 0, [])), (12, (.aload_n 1, 13, 0, 0, 1, 0, 0, [])), (13, (.getfield 106, 16, 0, 0, 4, 1, 2, [])), (16, (.iload_n 3, 17, 0, 0, 3, 0, 0, [])), (17, (.aaload, 18, 0, 0, 0, 0, 0, [])), (18, (.astore 4, 20, 0, 0, 4, 0, 0, [])), (20, (.iload_n 2, 21, 0, 0, 2, 0, 0, [])), (21, (.aload_n 0, 22, 0, 0, 0, 0, 0, [])), (22, (.getfield 22, 25, 0, 0, 3, 2, 2, [])), (25, (.aload 4, 27, 0, 0, 4, 0, 0, [])), (27, (.getfield 81, 30, 0, 0, 5, 0, 0, [])), (30, (.iaload, 31, 0, 0, 0, 0, 0, [])), (31, (.aload 4, 33, 0, 0, 4, 0, 0, [])), (33, (.getfield 70, 36, 0, 0, 5, 3, 3, [])), (36, (.ifCond .eq 7, 39, 0, 0, 43, 0, 0, [])), (39, (.iconst 1, 40, 1, 0, 0, 0, 0, [])), (40, (.goto 4, 43, 0, 0, 44, 0, 0, [])), (43, (.iconst 0, 44, 0, 0, 0, 0, 0, [])), (44, (.iadd, 45, 0, 0, 0, 0, 0, [])), (45, (.invokestatic 109, 48, 0, 0, 0, 0, 0, [])), (48, (.istore_n 2, 49, 0, 0, 2, 0, 0, [])), (49, (.iinc 3 1, 52, 1, 0, 3, 0, 0, [])), (52, (.goto (-48), 55, 0, 0, 4, 0, 0, [])), (55, (.aload_n 0, 56, 0, 0, 0, 0, 0, [])), (56, (.getfield 22, 59, 0, 0, 3, 2, 2, [])), (59, (.aload_n 1, 60, 0, 0, 1, 0, 0, [])), (60, (.getfield 77, 63, 0, 0, 4, 0, 2, [])), (63, (.getfield 81, 66, 0, 0, 5, 0, 0, [])), (66, (.iaload, 67, 0, 0, 0, 0, 0, [])), (67, (.iload_n 2, 68, 0, 0, 2, 0, 0, [])), (68, (.if_icmp .lt 5, 71, 0, 0, 73, 0, 0, [])), (71, (.iconst 0, 72, 0, 0, 0, 0, 0, [])), (72, (.ireturn, 73, 0, 0, 0, 0, 0, [])), (73, (.aload_n 0, 74, 0, 0, 0, 0, 0, [])), (74, (.getfield 22, 77, 0, 0, 3, 2, 2, [])), (77, (.aload_n 1, 78, 0, 0, 1, 0, 0, [])), (78, (.getfield 77, 81, 0, 0, 4, 0, 2, [])), (81, (.getfield 81, 84, 0, 0, 5, 0, 0, [])), (84, (.iload_n 2, 85, 0, 0, 2, 0, 0, [])), (85, (.iastore, 86, 0, 0, 0, 0, 0, [])), (86, (.iconst 1, 87, 1, 0, 0, 0, 0, [])), (87, (.ireturn, 88, 0, 0, 0, 0, 0, []))]
set_option maxRecDepth 100000 in
theorem ok_RB_raiseHead : ∀ x ∈ k_RB_raiseHead, okE R_RB 0 b_RB_raiseHead x := fc e_RB_raiseHead_0 (fc e_RB_raiseHead_1 (fc e_RB_raiseHead_2 (fc e_RB_raiseHead_3 (fc e_RB_raiseHead_4 (fc e_RB_raiseHead_5 (fc e_RB_raiseHead_6 (fc e_RB_raiseHead_9 (fc e_RB_raiseHead_12 (fc e_RB_raiseHead_13 (fc e_RB_raiseHead_16 (fc e_RB_raiseHead_17 (fc e_RB_raiseHead_18 (fc e_RB_raiseHead_20 (fc e_RB_raiseHead_21 (fc e_RB_raiseHead_22 (fc e_RB_raiseHead_25 (fc e_RB_raiseHead_27 (fc e_RB_raiseHead_30 (fc e_RB_raiseHead_31 (fc e_RB_raiseHead_33 (fc e_RB_raiseHead_36 (fc e_RB_raiseHead_39 (fc e_RB_raiseHead_40 (fc e_RB_raiseHead_43 (fc e_RB_raiseHead_44 (fc e_RB_raiseHead_45 (fc e_RB_raiseHead_48 (fc e_RB_raiseHead_49 (fc e_RB_raiseHead_52 (fc e_RB_raiseHead_55 (fc e_RB_raiseHead_56 (fc e_RB_raiseHead_59 (fc e_RB_raiseHead_60 (fc e_RB_raiseHead_63 (fc e_RB_raiseHead_66 (fc e_RB_raiseHead_67 (fc e_RB_raiseHead_68 (fc e_RB_raiseHead_71 (fc e_RB_raiseHead_72 (fc e_RB_raiseHead_73 (fc e_RB_raiseHead_74 (fc e_RB_raiseHead_77 (fc e_RB_raiseHead_78 (fc e_RB_raiseHead_81 (fc e_RB_raiseHead_84 (fc e_RB_raiseHead_85 (fc e_RB_raiseHead_86 (fc e_RB_raiseHead_87 (fun _ h => absurd h List.not_mem_nil)))))))))))))))))))))))))))))))))))))))))))))))))
theorem rt_RB_raiseHead : ∀ x ∈ k_RB_raiseHead, okR 1 x.2.1 = true := by decide +kernel
theorem e_RB_remove_0 : okE R_RB 0 b_RB_remove (0, (.aload_n 0, 1, 0, 0, 0, 0, 0, [])) := ⟨by decide +kernel, rfl, rfl⟩
theorem e_RB_remove_1 : okE R_RB 0 b_RB_remove (1, (.getfield 11, 4, 0, 0, 3, 0, 2, [])) := ⟨by decide +kernel, rfl, ⟨_, _, _, rfl, by decide, wf_RB_11, rfl, rfl⟩⟩
theorem e_RB_remove_4 : okE R_RB 0 b_RB_remove (4, (.iload_n 1, 5, 0, 0, 1, 0, 0, [])) := ⟨by decide +kernel, rfl, rfl⟩
theorem e_RB_remove_5 : okE R_RB 0 b_RB_remove (5, (.aaload, 6, 0, 0, 0, 0, 0, [])) := ⟨by decide +kernel, rfl, trivial⟩
theorem e_RB_remove_6 : okE R_RB 0 b_RB_remove (6, (.iconst 0, 7, 0, 0, 0, 0, 0, [])) := ⟨by decide +kernel, rfl, rfl⟩
theorem e_RB_remove_7 : okE R_RB 0 b_RB_remove (7, (.putfield 74, 10, 0, 0, 4, 4, 3, [])) := ⟨by decide +kernel, rfl, ⟨⟨_, _, _, rfl, by decide, wf_RB_74, rfl, rfl⟩, ⟨_, _, _, rfl, Or.inl rfl, tk_RL.1 4 (by decide)⟩⟩⟩
theorem e_RB_remove_10 : okE R_RB 0 b_RB_remove (10, (.return_, 11, 0, 0, 0, 0, 0, [])) := ⟨by decide +kernel, rfl, trivial⟩
def k_RB_remove : List (Nat × En) := [(0, (.aload_n 0, 1, 0, 0, 0, 0, 0, [])), (1, (.getfield 11, 4, 0, 0, 3, 0, 2, [])), (4, (.iload_n 1, 5, 0, 0, 1, 0, 0, [])), (5, (.aaload, 6, 0, 0, 0, 0, 0, [])), (6, (.iconst 0, 7, 0, 0, 0, 0, 0, [])), (7, (.putfield 74, 10, 0, 0, 4, 4, 3, [])), (10, (.return_, 11, 0, 0, 0, 0, 0, []))]
set_option maxRecDepth 100000 in
theorem ok_RB_remove : ∀ x ∈ k_RB_remove, okE R_RB 0 b_RB_remove x := fc e_RB_remove_0 (fc e_RB_remove_1 (fc e_RB_remove_4 (fc e_RB_remove_5 (fc e_RB_remove_6 (fc e_RB_remove_7 (fc e_RB_remove_10 (fun _ h => absurd h List.not_mem_nil)))))))
theorem rt_RB_remove : ∀ x ∈ k_RB_remove, okR 3 x.2.1 = true := by decide +kernel
theorem e_RB_headOf_0 : okE R_RB 0 b_RB_headOf (0, (.aload_n 0, 1, 0, 0, 0, 0, 0, [])) := ⟨by decide +kernel, rfl, rfl⟩
theorem e_RB_headOf_1 : okE R_RB 0 b_RB_headOf (1, (.getfield 11, 4, 0, 0, 3, 0, 2, [])) := ⟨by decide +kernel, rfl, ⟨_, _, _, rfl, by decide, wf_RB_11, rfl, rfl⟩⟩
theorem e_RB_headOf_4 : okE R_RB 0 b_RB_headOf (4, (.iload_n 1, 5, 0, 0, 1, 0, 0, [])) := ⟨by decide +kernel, rfl, rfl⟩
theorem e_RB_headOf_5 : okE R_RB 0 b_RB_headOf (5, (.aaload, 6, 0, 0, 0, 0, 0, [])) := ⟨by decide +kernel, rfl, trivial⟩
theorem e_RB_headOf_6 : okE R_RB 0 b_RB_headOf (6, (.getfield 77, 9, 0, 0, 4, 0, 2, [])) := ⟨by decide +kernel, rfl, ⟨_, _, _, rfl, by decide, wf_RB_77, rfl, rfl⟩⟩
theorem e_RB_headOf_9 : okE R_RB 0 b_RB_headOf (9, (.getfield 81, 12, 0, 0, 5, 0, 0, [])) := ⟨by decide +kernel, rfl, ⟨_, _, _, rfl, by decide, wf_RB_81, rfl, rfl⟩⟩
theorem e_RB_headOf_12 : okE R_RB 0 b_RB_headOf (12, (.ireturn, 13, 0, 0, 0, 0, 0, [])) := ⟨by decide +kernel, rfl, trivial⟩
def k_RB_headOf : List (Nat × En) := [(0, (.aload_n 0, 1, 0, 0, 0, 0, 0, [])), (1, (.getfield 11, 4, 0, 0, 3, 0, 2, [])), (4, (.iload_n 1, 5, 0, 0, 1, 0, 0, [])), (5, (.aaload, 6, 0, 0, 0, 0, 0, [])), (6, (.getfield 77, 9, 0, 0, 4, 0, 2, [])), (9, (.getfield 81, 12, 0, 0, 5, 0, 0, [])), (12, (.ireturn, 13, 0, 0, 0, 0, 0, []))]
set_option maxRecDepth 100000 in
theorem ok_RB_headOf : ∀ x ∈ k_RB_headOf, okE R_RB 0 b_RB_headOf x := fc e_RB_headOf_0 (fc e_RB_headOf_1 (fc e_RB_headOf_4 (fc e_RB_headOf_5 (fc e_RB_headOf_6 (fc e_RB_headOf_9 (fc e_RB_headOf_12 (fun _ h => absurd h List.not_mem_nil)))))))
theorem rt_RB_headOf : ∀ x ∈ k_RB_headOf, okR 0 x.2.1 = true := by decide +kernel
theorem e_RB_isUsers_0 : okE R_RB 0 b_RB_isUsers (0, (.iload_n 1, 1, 0, 0, 1, 0, 0, [])) := ⟨by decide +kernel, rfl, rfl⟩
theorem e_RB_isUsers_1 : okE R_RB 0 b_RB_isUsers (1, (.bipush 6, 3, 6, 0, 0, 0, 0, [])) := ⟨by decide +kernel, rfl, rfl⟩
theorem e_RB_isUsers_3 : okE R_RB 0 b_RB_isUsers (3, (.if_icmp .lt 25, 6, 0, 0, 28, 0, 0, [])) := ⟨by decide +kernel, rfl, rfl⟩
theorem e_RB_isUsers_6 : okE R_RB 0 b_RB_isUsers (6, (.iload_n 1, 7, 0, 0, 1, 0, 0, [])) := ⟨by decide +kernel, rfl, rfl⟩
theorem e_RB_isUsers_7 : okE R_RB 0 b_RB_isUsers (7, (.bipush 14, 9, 14, 0, 0, 0, 0, [])) := ⟨by decide +kernel, rfl, rfl⟩
theorem e_RB_isUsers_9 : okE R_RB 0 b_RB_isUsers (9, (.if_icmp .ge 19, 12, 0, 0, 28, 0, 0, [])) := ⟨by decide +kernel, rfl, rfl⟩
theorem e_RB_isUsers_12 : okE R_RB 0 b_RB_isUsers (12, (.aload_n 0, 13, 0, 0, 0, 0, 0, [])) := ⟨by decide +kernel, rfl, rfl⟩
theorem e_RB_isUsers_13 : okE R_RB 0 b_RB_isUsers (13, (.getfield 11, 16, 0, 0, 3, 0, 2, [])) := ⟨by decide +kernel, rfl, ⟨_, _, _, rfl, by decide, wf_RB_11, rfl, rfl⟩⟩
theorem e_RB_isUsers_16 : okE R_RB 0 b_RB_isUsers (16, (.iload_n 1, 17, 0, 0, 1, 0, 0, [])) := ⟨by decide +kernel, rfl, rfl⟩
theorem e_RB_isUsers_17 : okE R_RB 0 b_RB_isUsers (17, (.aaload, 18, 0, 0, 0, 0, 0, [])) := ⟨by decide +kernel, rfl, trivial⟩
theorem e_RB_isUsers_18 : okE R_RB 0 b_RB_isUsers (18, (.getfield 74, 21, 0, 0, 4, 4, 3, [])) := ⟨by decide +kernel, rfl, ⟨_, _, _, rfl, by decide, wf_RB_74, rfl, rfl⟩⟩
theorem e_RB_isUsers_21 : okE R_RB 0 b_RB_isUsers (21, (.ifCond .eq 7, 24, 0, 0, 28, 0, 0, [])) := ⟨by decide +kernel, rfl, rfl⟩
theorem e_RB_isUsers_24 : okE R_RB 0 b_RB_isUsers (24, (.iconst 1, 25, 1, 0, 0, 0, 0, [])) := ⟨by decide +kernel, rfl, rfl⟩
theorem e_RB_isUsers_25 : okE R_RB 0 b_RB_isUsers (25, (.goto 4, 28, 0, 0, 29, 0, 0, [])) := ⟨by decide +kernel, rfl, rfl⟩
theorem e_RB_isUsers_28 : okE R_RB 0 b_RB_isUsers (28, (.iconst 0, 29, 0, 0, 0, 0, 0, [])) := ⟨by decide +kernel, rfl, rfl⟩
theorem e_RB_isUsers_29 : okE R_RB 0 b_RB_isUsers (29, (.ireturn, 30, 0, 0, 0, 0, 0, [])) := ⟨by decide +kernel, rfl, trivial⟩
def k_RB_isUsers : List (Nat × En) := [(0, (.iload_n 1, 1, 0, 0, 1, 0, 0, [])), (1, (.bipush 6, 3, 6, 0, 0, 0, 0, [])), (3, (.if_icmp .lt 25, 6, 0, 0, 28, 0, 0, [])), (6, (.iload_n 1, 7, 0, 0, 1, 0, 0, [])), (7, (.bipush 14, 9, 14, 0, 0, 0, 0, [])), (9, (.if_icmp .ge 19, 12, 0, 0, 28, 0, 0, [])), (12, (.aload_n 0, 13, 0, 0, 0, 0, 0, [])), (13, (.getfield 11, 16, 0, 0, 3, 0, 2, [])), (16, (.iload_n 1, 17, 0, 0, 1, 0, 0, [])), (17, (.aaload, 18, 0, 0, 0, 0, 0, [])), (18, (.getfield 74, 21, 0, 0, 4, 4, 3, [])), (21, (.ifCond .eq 7, 24, 0, 0, 28, 0, 0, [])), (24, (.iconst 1, 25, 1, 0, 0, 0, 0, [])), (25, (.goto 4, 28, 0, 0, 29, 0, 0, [])), (28, (.iconst 0, 29, 0, 0, 0, 0, 0, [])), (29, (.ireturn, 30, 0, 0, 0, 0, 0, []))]
set_option maxRecDepth 100000 in
theorem ok_RB_isUsers : ∀ x ∈ k_RB_isUsers, okE R_RB 0 b_RB_isUsers x := fc e_RB_isUsers_0 (fc e_RB_isUsers_1 (fc e_RB_isUsers_3 (fc e_RB_isUsers_6 (fc e_RB_isUsers_7 (fc e_RB_isUsers_9 (fc e_RB_isUsers_12 (fc e_RB_isUsers_13 (fc e_RB_isUsers_16 (fc e_RB_isUsers_17 (fc e_RB_isUsers_18 (fc e_RB_isUsers_21 (fc e_RB_isUsers_24 (fc e_RB_isUsers_25 (fc e_RB_isUsers_28 (fc e_RB_isUsers_29 (fun _ h => absurd h List.not_mem_nil))))))))))))))))
theorem rt_RB_isUsers : ∀ x ∈ k_RB_isUsers, okR 1 x.2.1 = true := by decide +kernel
