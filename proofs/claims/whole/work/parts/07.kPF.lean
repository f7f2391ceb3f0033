theorem e_PF_init_0 : okE R_PF 1 b_PF_init (0, (.aload_n 0, 1, 0, 0, 0, 0, 0, [])) := ⟨by decide +kernel, rfl, rfl⟩
theorem e_PF_init_1 : okE R_PF 1 b_PF_init (1, (.invokespecial 3, 4, 0, 0, 0, 0, 0, [])) := ⟨by decide +kernel, rfl, trivial⟩
theorem e_PF_init_4 : okE R_PF 1 b_PF_init (4, (.aload_n 0, 5, 0, 0, 0, 0, 0, [])) := ⟨by decide +kernel, rfl, rfl⟩
theorem e_PF_init_5 : okE R_PF 1 b_PF_init (5, (.new 9, 8, 0, 0, 1, 0, 0, [])) := ⟨by decide +kernel, rfl, ⟨_, _, _, rfl, rfl, wc_PF_9, wn_PG, wi_PG⟩⟩
theorem e_PF_init_8 : okE R_PF 1 b_PF_init (8, (.dup, 9, 0, 0, 0, 0, 0, [])) := ⟨by decide +kernel, rfl, trivial⟩
theorem e_PF_init_9 : okE R_PF 1 b_PF_init (9, (.invokespecial 11, 12, 0, 0, 1, 0, 0, [])) := ⟨by decide +kernel, rfl, trivial⟩
theorem e_PF_init_12 : okE R_PF 1 b_PF_init (12, (.putfield 12, 15, 0, 0, 0, 0, 2, [])) := ⟨by decide +kernel, rfl, ⟨⟨_, _, _, rfl, by decide, wf_PF_12, rfl, rfl⟩, ⟨_, _, _, rfl, Or.inr ⟨rfl, rfl, rfl⟩, ⟨_, tk_PF.1 0 (by decide), fun a => ⟨rfl, rfl⟩⟩⟩⟩⟩
theorem e_PF_init_15 : okE R_PF 1 b_PF_init (15, (.aload_n 0, 16, 0, 0, 0, 0, 0, [])) := ⟨by decide +kernel, rfl, rfl⟩
theorem e_PF_init_16 : okE R_PF 1 b_PF_init (16, (.new 16, 19, 0, 0, 2, 0, 0, [])) := ⟨by decide +kernel, rfl, ⟨_, _, _, rfl, rfl, wc_PF_16, wn_RS, wi_RS⟩⟩
theorem e_PF_init_19 : okE R_PF 1 b_PF_init (19, (.dup, 20, 0, 0, 0, 0, 0, [])) := ⟨by decide +kernel, rfl, trivial⟩
theorem e_PF_init_20 : okE R_PF 1 b_PF_init (20, (.invokespecial 18, 23, 0, 0, 2, 0, 0, [])) := ⟨by decide +kernel, rfl, trivial⟩
theorem e_PF_init_23 : okE R_PF 1 b_PF_init (23, (.putfield 19, 26, 0, 0, 0, 1, 2, [])) := ⟨by decide +kernel, rfl, ⟨⟨_, _, _, rfl, by decide, wf_PF_19, rfl, rfl⟩, ⟨_, _, _, rfl, Or.inr ⟨rfl, rfl, rfl⟩, ⟨_, tk_PF.1 1 (by decide), fun a => ⟨rfl, rfl⟩⟩⟩⟩⟩
theorem e_PF_init_26 : okE R_PF 1 b_PF_init (26, (.aload_n 0, 27, 0, 0, 0, 0, 0, [])) := ⟨by decide +kernel, rfl, rfl⟩
theorem e_PF_init_27 : okE R_PF 1 b_PF_init (27, (.new 23, 30, 0, 0, 3, 0, 0, [])) := ⟨by decide +kernel, rfl, ⟨_, _, _, rfl, rfl, wc_PF_23, wn_RB, wi_RB⟩⟩
theorem e_PF_init_30 : okE R_PF 1 b_PF_init (30, (.dup, 31, 0, 0, 0, 0, 0, [])) := ⟨by decide +kernel, rfl, trivial⟩
theorem e_PF_init_31 : okE R_PF 1 b_PF_init (31, (.invokespecial 25, 34, 0, 0, 3, 0, 0, [])) := ⟨by decide +kernel, rfl, trivial⟩
theorem e_PF_init_34 : okE R_PF 1 b_PF_init (34, (.putfield 26, 37, 0, 0, 0, 2, 2, [])) := ⟨by decide +kernel, rfl, ⟨⟨_, _, _, rfl, by decide, wf_PF_26, rfl, rfl⟩, ⟨_, _, _, rfl, Or.inr ⟨rfl, rfl, rfl⟩, ⟨_, tk_PF.1 2 (by decide), fun a => ⟨rfl, rfl⟩⟩⟩⟩⟩
theorem e_PF_init_37 : okE R_PF 1 b_PF_init (37, (.aload_n 0, 38, 0, 0, 0, 0, 0, [])) := ⟨by decide +kernel, rfl, rfl⟩
theorem e_PF_init_38 : okE R_PF 1 b_PF_init (38, (.getfield 26, 41, 0, 0, 0, 2, 2, [])) := ⟨by decide +kernel, rfl, ⟨_, _, _, rfl, by decide, wf_PF_26, rfl, rfl⟩⟩
theorem e_PF_init_41 : okE R_PF 1 b_PF_init (41, (.invokevirtual 30, 44, 0, 0, 4, 0, 0, [])) := ⟨by decide +kernel, rfl, trivial⟩
theorem e_PF_init_44 : okE R_PF 1 b_PF_init (44, (.aload_n 0, 45, 0, 0, 0, 0, 0, [])) := ⟨by decide +kernel, rfl, rfl⟩
theorem e_PF_init_45 : okE R_PF 1 b_PF_init (45, (.new 33, 48, 0, 0, 6, 0, 0, [])) := ⟨by decide +kernel, rfl, ⟨_, _, _, rfl, rfl, wc_PF_33, wn_DV, wi_DV⟩⟩
theorem e_PF_init_48 : okE R_PF 1 b_PF_init (48, (.dup, 49, 0, 0, 0, 0, 0, [])) := ⟨by decide +kernel, rfl, trivial⟩
theorem e_PF_init_49 : okE R_PF 1 b_PF_init (49, (.invokespecial 35, 52, 0, 0, 5, 0, 0, [])) := ⟨by decide +kernel, rfl, trivial⟩
theorem e_PF_init_52 : okE R_PF 1 b_PF_init (52, (.putfield 36, 55, 0, 0, 0, 3, 2, [])) := ⟨by decide +kernel, rfl, ⟨⟨_, _, _, rfl, by decide, wf_PF_36, rfl, rfl⟩, ⟨_, _, _, rfl, Or.inr ⟨rfl, rfl, rfl⟩, ⟨_, tk_PF.1 3 (by decide), fun a => ⟨rfl, rfl⟩⟩⟩⟩⟩
theorem e_PF_init_55 : okE R_PF 1 b_PF_init (55, (.aload_n 0, 56, 0, 0, 0, 0, 0, [])) := ⟨by decide +kernel, rfl, rfl⟩
theorem e_PF_init_56 : okE R_PF 1 b_PF_init (56, (.new 40, 59, 0, 0, 7, 0, 0, [])) := ⟨by decide +kernel, rfl, ⟨_, _, _, rfl, rfl, wc_PF_40, wn_RN, wi_RN⟩⟩
theorem e_PF_init_59 : okE R_PF 1 b_PF_init (59, (.dup, 60, 0, 0, 0, 0, 0, [])) := ⟨by decide +kernel, rfl, trivial⟩
theorem e_PF_init_60 : okE R_PF 1 b_PF_init (60, (.invokespecial 42, 63, 0, 0, 6, 0, 0, [])) := ⟨by decide +kernel, rfl, trivial⟩
theorem e_PF_init_63 : okE R_PF 1 b_PF_init (63, (.putfield 43, 66, 0, 0, 0, 4, 2, [])) := ⟨by decide +kernel, rfl, ⟨⟨_, _, _, rfl, by decide, wf_PF_43, rfl, rfl⟩, ⟨_, _, _, rfl, Or.inr ⟨rfl, rfl, rfl⟩, ⟨_, tk_PF.1 4 (by decide), fun a => ⟨rfl, rfl⟩⟩⟩⟩⟩
theorem e_PF_init_66 : okE R_PF 1 b_PF_init (66, (.aload_n 0, 67, 0, 0, 0, 0, 0, [])) := ⟨by decide +kernel, rfl, rfl⟩
theorem e_PF_init_67 : okE R_PF 1 b_PF_init (67, (.iconst 0, 68, 0, 0, 0, 0, 0, [])) := ⟨by decide +kernel, rfl, rfl⟩
theorem e_PF_init_68 : okE R_PF 1 b_PF_init (68, (.putfield 47, 71, 0, 0, 0, 5, 0, [])) := ⟨by decide +kernel, rfl, ⟨⟨_, _, _, rfl, by decide, wf_PF_47, rfl, rfl⟩, ⟨_, _, _, rfl, Or.inl rfl, tk_PF.1 5 (by decide)⟩⟩⟩
theorem e_PF_init_71 : okE R_PF 1 b_PF_init (71, (.return_, 72, 0, 0, 0, 0, 0, [])) := ⟨by decide +kernel, rfl, trivial⟩
def k_PF_init : List (Nat × En) := [(0, (.aload_n 0, 1, 0, 0, 0, 0, 0, [])), (1, (.invokespecial 3, 4, 0, 0, 0, 0, 0, [])), (4, (.aload_n 0, 5, 0, 0, 0, 0, 0, [])), (5, (.new 9, 8, 0, 0, 1, 0, 0, [])), (8, (.dup, 9, 0, 0, 0, 0, 0, [])), (9, (.invokespecial 11, 12, 0, 0, 1, 0, 0, [])), (12, (.putfield 12, 15, 0, 0, 0, 0, 2, [])), (15, (.aload_n 0, 16, 0, 0, 0, 0, 0, [])), (16, (.new 16, 19, 0, 0, 2, 0, 0, [])), (19, (.dup, 20, 0, 0, 0, 0, 0, [])), (20, (.invokespecial 18, 23, 0, 0, 2, 0, 0, [])), (23, (.putfield 19, 26, 0, 0, 0, 1, 2, [])), (26, (.aload_n 0, 27, 0, 0, 0, 0, 0, [])), (27, (.new 23, 30, 0, 0, 3, 0, 0, [])), (30, (.dup, 31, 0, 0, 0, 0, 0, [])), (31, (.invokespecial 25, 34, 0, 0, 3, 0, 0, [])), (34, (.putfield 26, 37, 0, 0, 0, 2, 2, [])), (37, (.aload_n 0, 38, 0, 0, 0, 0, 0, [])), (38, (.getfield 26, 41, 0, 0, 0, 2, 2, [])), (41, (.invokevirtual 30, 44, 0, 0, 4, 0, 0, [])), (44, (.aload_n 0, 45, 0, 0, 0, 0, 0, [])), (45, (.new 33, 48, 0, 0, 6, 0, 0, [])), (48, (.dup, 49, 0, 0, 0, 0, 0, [])), (49, (.invokespecial 35, 52, 0, 0, 5, 0, 0, [])), (52, (.putfield 36, 55, 0, 0, 0, 3, 2, [])), (55, (.aload_n 0, 56, 0, 0, 0, 0, 0, [])), (56, (.new 40, 59, 0, 0, 7, 0, 0, [])), (59, (.dup, 60, 0, 0, 0, 0, 0, [])), (60, (.invokespecial 42, 63, 0, 0, 6, 0, 0, [])), (63, (.putfield 43, 66, 0, 0, 0, 4, 2, [])), (66, (.aload_n 0, 67, 0, 0, 0, 0, 0, [])), (67, (.iconst 0, 68, 0, 0, 0, 0, 0, [])), (68, (.putfield 47, 71, 0, 0, 0, 5, 0, [])), (71, (.return_, 72, 0, 0, 0, 0, 0, []))]
set_option maxRecDepth 100000 in
theorem ok_PF_init : ∀ x ∈ k_PF_init, okE R_PF 1 b_PF_init x := fc e_PF_init_0 (fc e_PF_init_1 (fc e_PF_init_4 (fc e_PF_init_5 (fc e_PF_init_8 (fc e_PF_init_9 (fc e_PF_init_12 (fc e_PF_init_15 (fc e_PF_init_16 (fc e_PF_init_19 (fc e_PF_init_20 (fc e_PF_init_23 (fc e_PF_init_26 (fc e_PF_init_27 (fc e_PF_init_30 (fc e_PF_init_31 (fc e_PF_init_34 (fc e_PF_init_37 (fc e_PF_init_38 (fc e_PF_init_41 (fc e_PF_init_44 (fc e_PF_init_45 (fc e_PF_init_48 (fc e_PF_init_49 (fc e_PF_init_52 (fc e_PF_init_55 (fc e_PF_init_56 (fc e_PF_init_59 (fc e_PF_init_60 (fc e_PF_init_63 (fc e_PF_init_66 (fc e_PF_init_67 (fc e_PF_init_68 (fc e_PF_init_71 (fun _ h => absurd h List.not_mem_nil))))))))))))))))))))))))))))))))))
theorem rt_PF_init : ∀ x ∈ k_PF_init, okR 3 x.2.1 = true := by decide +kernel
theorem e_PF_relation_0 : okE R_PF 0 b_PF_relation (0, (.iload_n 1, 1, 0, 0, 1, 0, 0, [])) := ⟨by decide +kernel, rfl, rfl⟩
theorem e_PF_relation_1 : okE R_PF 0 b_PF_relation (1, (.iconst 1, 2, 1, 0, 0, 0, 0, [])) := ⟨by decide +kernel, rfl, rfl⟩
theorem e_PF_relation_2 : okE R_PF 0 b_PF_relation (2, (.if_icmp .eq 8, 5, 0, 0, 10, 0, 0, [])) := ⟨by decide +kernel, rfl, rfl⟩
theorem e_PF_relation_5 : okE R_PF 0 b_PF_relation (5, (.iload_n 1, 6, 0, 0, 1, 0, 0, [])) := ⟨by decide +kernel, rfl, rfl⟩
theorem e_PF_relation_6 : okE R_PF 0 b_PF_relation (6, (.iconst 2, 7, 2, 0, 0, 0, 0, [])) := ⟨by decide +kernel, rfl, rfl⟩
theorem e_PF_relation_7 : okE R_PF 0 b_PF_relation (7, (.if_icmp .ne 7, 10, 0, 0, 14, 0, 0, [])) := ⟨by decide +kernel, rfl, rfl⟩
theorem e_PF_relation_10 : okE R_PF 0 b_PF_relation (10, (.iconst 1, 11, 1, 0, 0, 0, 0, [])) := ⟨by decide +kernel, rfl, rfl⟩
theorem e_PF_relation_11 : okE R_PF 0 b_PF_relation (11, (.goto 4, 14, 0, 0, 15, 0, 0, [])) := ⟨by decide +kernel, rfl, rfl⟩
theorem e_PF_relation_14 : okE R_PF 0 b_PF_relation (14, (.iconst 0, 15, 0, 0, 0, 0, 0, [])) := ⟨by decide +kernel, rfl, rfl⟩
theorem e_PF_relation_15 : okE R_PF 0 b_PF_relation (15, (.istore_n 2, 16, 0, 0, 2, 0, 0, [])) := ⟨by decide +kernel, rfl, rfl⟩
theorem e_PF_relation_16 : okE R_PF 0 b_PF_relation (16, (.iload_n 2, 17, 0, 0, 2, 0, 0, [])) := ⟨by decide +kernel, rfl, rfl⟩
theorem e_PF_relation_17 : okE R_PF 0 b_PF_relation (17, (.ifCond .eq 26, 20, 0, 0, 43, 0, 0, [])) := ⟨by decide +kernel, rfl, rfl⟩
theorem e_PF_relation_20 : okE R_PF 0 b_PF_relation (20, (.aload_n 0, 21, 0, 0, 0, 0, 0, [])) := ⟨by decide +kernel, rfl, rfl⟩
theorem e_PF_relation_21 : okE R_PF 0 b_PF_relation (21, (.getfield 19, 24, 0, 0, 0, 1, 2, [])) := ⟨by decide +kernel, rfl, ⟨_, _, _, rfl, by decide, wf_PF_19, rfl, rfl⟩⟩
theorem e_PF_relation_24 : okE R_PF 0 b_PF_relation (24, (.getfield 51, 27, 0, 0, 2, 4, 0, [])) := ⟨by decide +kernel, rfl, ⟨_, _, _, rfl, by decide, wf_PF_51, rfl, rfl⟩⟩
theorem e_PF_relation_27 : okE R_PF 0 b_PF_relation (27, (.bipush 14, 29, 14, 0, 0, 0, 0, [])) := ⟨by decide +kernel, rfl, rfl⟩
theorem e_PF_relation_29 : okE R_PF 0 b_PF_relation (29, (.if_icmp .ge 14, 32, 0, 0, 43, 0, 0, [])) := ⟨by decide +kernel, rfl, rfl⟩
theorem e_PF_relation_32 : okE R_PF 0 b_PF_relation (32, (.aload_n 0, 33, 0, 0, 0, 0, 0, [])) := ⟨by decide +kernel, rfl, rfl⟩
theorem e_PF_relation_33 : okE R_PF 0 b_PF_relation (33, (.getfield 19, 36, 0, 0, 0, 1, 2, [])) := ⟨by decide +kernel, rfl, ⟨_, _, _, rfl, by decide, wf_PF_19, rfl, rfl⟩⟩
theorem e_PF_relation_36 : okE R_PF 0 b_PF_relation (36, (.iload_n 1, 37, 0, 0, 1, 0, 0, [])) := ⟨by decide +kernel, rfl, rfl⟩
theorem e_PF_relation_37 : okE R_PF 0 b_PF_relation (37, (.invokevirtual 54, 40, 0, 0, 0, 0, 0, [])) := ⟨by decide +kernel, rfl, trivial⟩
theorem e_PF_relation_40 : okE R_PF 0 b_PF_relation (40, (.goto 4, 43, 0, 0, 44, 0, 0, [])) := ⟨by decide +kernel, rfl, rfl⟩
theorem e_PF_relation_43 : okE R_PF 0 b_PF_relation (43, (.iconst (-1), 44, (-1), 0, 0, 0, 0, [])) := ⟨by decide +kernel, rfl, rfl⟩
theorem e_PF_relation_44 : okE R_PF 0 b_PF_relation (44, (.ireturn, 45, 0, 0, 0, 0, 0, [])) := ⟨by decide +kernel, rfl, trivial⟩
def k_PF_relation : List (Nat × En) := [(0, (.iload_n 1, 1, 0, 0, 1, 0, 0, [])), (1, (.iconst 1, 2, 1, 0, 0, 0, 0, [])), (2, (.if_icmp .eq 8, 5, 0, 0, 10, 0, 0, [])), (5, (.iload_n 1, 6, 0, 0, 1, 0, 0, [])), (6, (.iconst 2, 7, 2, 0, 0, 0, 0, [])), (7, (.if_icmp .ne 7, 10, 0, 0, 14, 0, 0, [])), (10, (.iconst 1, 11, 1, 0, 0, 0, 0, [])), (11, (.goto 4, 14, 0, 0, 15, 0, 0, [])), (14, (.iconst 0, 15, 0, 0, 0, 0, 0, [])), (15, (.istore_n 2, 16, 0, 0, 2, 0, 0, [])), (16, (.iload_n 2, 17, 0, 0, 2, 0, 0, [])), (17, (.ifCond .eq 26, 20, 0, 0, 43, 0, 0, [])), (20, (.aload_n 0, 21, 0, 0, 0, 0, 0, [])), (21, (.getfield 19, 24, 0, 0, 0, 1, 2, [])), (24, (.getfield 51, 27, 0, 0, 2, 4, 0, [])), (27, (.bipush 14, 29, 14, 0, 0, 0, 0, [])), (29, (.if_icmp .ge 14, 32, 0, 0, 43, 0, 0, [])), (32, (.aload_n 0, 33, 0, 0, 0, 0, 0, [])), (33, (.getfield 19, 36, 0, 0, 0, 1, 2, [])), (36, (.iload_n 1, 37, 0, 0, 1, 0, 0, [])), (37, (.invokevirtual 54, 40, 0, 0, 0, 0, 0, [])), (40, (.goto 4, 43, 0, 0, 44, 0, 0, [])), (43, (.iconst (-1), 44, (-1), 0, 0, 0, 0, [])), (44, (.ireturn, 45, 0, 0, 0, 0, 0, []))]
set_option maxRecDepth 100000 in
theorem ok_PF_relation : ∀ x ∈ k_PF_relation, okE R_PF 0 b_PF_relation x := fc e_PF_relation_0 (fc e_PF_relation_1 (fc e_PF_relation_2 (fc e_PF_relation_5 (fc e_PF_relation_6 (fc e_PF_relation_7 (fc e_PF_relation_10 (fc e_PF_relation_11 (fc e_PF_relation_14 (fc e_PF_relation_15 (fc e_PF_relation_16 (fc e_PF_relation_17 (fc e_PF_relation_20 (fc e_PF_relation_21 (fc e_PF_relation_24 (fc e_PF_relation_27 (fc e_PF_relation_29 (fc e_PF_relation_32 (fc e_PF_relation_33 (fc e_PF_relation_36 (fc e_PF_relation_37 (fc e_PF_relation_40 (fc e_PF_relation_43 (fc e_PF_relation_44 (fun _ h => absurd h List.not_mem_nil))))))))))))))))))))))))
theorem rt_PF_relation : ∀ x ∈ k_PF_relation, okR 0 x.2.1 = true := by decide +kernel
theorem e_PF_fact_0 : okE R_PF 0 b_PF_fact (0, (.aload_n 0, 1, 0, 0, 0, 0, 0, [])) := ⟨by decide +kernel, rfl, rfl⟩
theorem e_PF_fact_1 : okE R_PF 0 b_PF_fact (1, (.getfield 19, 4, 0, 0, 0, 1, 2, [])) := ⟨by decide +kernel, rfl, ⟨_, _, _, rfl, by decide, wf_PF_19, rfl, rfl⟩⟩
theorem e_PF_fact_4 : okE R_PF 0 b_PF_fact (4, (.iload_n 1, 5, 0, 0, 1, 0, 0, [])) := ⟨by decide +kernel, rfl, rfl⟩
theorem e_PF_fact_5 : okE R_PF 0 b_PF_fact (5, (.invokevirtual 58, 8, 0, 0, 0, 0, 0, [])) := ⟨by decide +kernel, rfl, trivial⟩
theorem e_PF_fact_8 : okE R_PF 0 b_PF_fact (8, (.ifCond .eq 16, 11, 0, 0, 24, 0, 0, [])) := ⟨by decide +kernel, rfl, rfl⟩
theorem e_PF_fact_11 : okE R_PF 0 b_PF_fact (11, (.aload_n 0, 12, 0, 0, 0, 0, 0, [])) := ⟨by decide +kernel, rfl, rfl⟩
theorem e_PF_fact_12 : okE R_PF 0 b_PF_fact (12, (.getfield 19, 15, 0, 0, 0, 1, 2, [])) := ⟨by decide +kernel, rfl, ⟨_, _, _, rfl, by decide, wf_PF_19, rfl, rfl⟩⟩
theorem e_PF_fact_15 : okE R_PF 0 b_PF_fact (15, (.iload_n 1, 16, 0, 0, 1, 0, 0, [])) := ⟨by decide +kernel, rfl, rfl⟩
theorem e_PF_fact_16 : okE R_PF 0 b_PF_fact (16, (.iload_n 2, 17, 0, 0, 2, 0, 0, [])) := ⟨by decide +kernel, rfl, rfl⟩
theorem e_PF_fact_17 : okE R_PF 0 b_PF_fact (17, (.iload_n 3, 18, 0, 0, 3, 0, 0, [])) := ⟨by decide +kernel, rfl, rfl⟩
theorem e_PF_fact_18 : okE R_PF 0 b_PF_fact (18, (.invokevirtual 62, 21, 0, 0, 1, 0, 0, [])) := ⟨by decide +kernel, rfl, trivial⟩
theorem e_PF_fact_21 : okE R_PF 0 b_PF_fact (21, (.goto 4, 24, 0, 0, 25, 0, 0, [])) := ⟨by decide +kernel, rfl, rfl⟩
theorem e_PF_fact_24 : okE R_PF 0 b_PF_fact (24, (.iconst (-1), 25, (-1), 0, 0, 0, 0, [])) := ⟨by decide +kernel, rfl, rfl⟩
theorem e_PF_fact_25 : okE R_PF 0 b_PF_fact (25, (.istore 5, 27, 0, 0, 5, 0, 0, [])) := ⟨by decide +kernel, rfl, rfl⟩
theorem e_PF_fact_27 : okE R_PF 0 b_PF_fact (27, (.iload 5, 29, 0, 0, 5, 0, 0, [])) := ⟨by decide +kernel, rfl, rfl⟩
theorem e_PF_fact_29 : okE R_PF 0 b_PF_fact (29, (.iconst (-1), 30, (-1), 0, 0, 0, 0, [])) := ⟨by decide +kernel, rfl, rfl⟩
theorem e_PF_fact_30 : okE R_PF 0 b_PF_fact (30, (.if_icmp .eq 18, 33, 0, 0, 48, 0, 0, [])) := ⟨by decide +kernel, rfl, rfl⟩
theorem e_PF_fact_33 : okE R_PF 0 b_PF_fact (33, (.aload_n 0, 34, 0, 0, 0, 0, 0, [])) := ⟨by decide +kernel, rfl, rfl⟩
theorem e_PF_fact_34 : okE R_PF 0 b_PF_fact (34, (.getfield 19, 37, 0, 0, 0, 1, 2, [])) := ⟨by decide +kernel, rfl, ⟨_, _, _, rfl, by decide, wf_PF_19, rfl, rfl⟩⟩
theorem e_PF_fact_37 : okE R_PF 0 b_PF_fact (37, (.iload_n 1, 38, 0, 0, 1, 0, 0, [])) := ⟨by decide +kernel, rfl, rfl⟩
theorem e_PF_fact_38 : okE R_PF 0 b_PF_fact (38, (.iload 5, 40, 0, 0, 5, 0, 0, [])) := ⟨by decide +kernel, rfl, rfl⟩
theorem e_PF_fact_40 : okE R_PF 0 b_PF_fact (40, (.invokevirtual 66, 43, 0, 0, 2, 0, 0, [])) := ⟨by decide +kernel, rfl, trivial⟩
theorem e_PF_fact_43 : okE R_PF 0 b_PF_fact (43, (.iload 4, 45, 0, 0, 4, 0, 0, [])) := ⟨by decide +kernel, rfl, rfl⟩
theorem e_PF_fact_45 : okE R_PF 0 b_PF_fact (45, (.if_icmp .ne 5, 48, 0, 0, 50, 0, 0, [])) := ⟨by decide +kernel, rfl, rfl⟩
theorem e_PF_fact_48 : okE R_PF 0 b_PF_fact (48, (.iconst 0, 49, 0, 0, 0, 0, 0, [])) := ⟨by decide +kernel, rfl, rfl⟩
theorem e_PF_fact_49 : okE R_PF 0 b_PF_fact (49, (.ireturn, 50, 0, 0, 0, 0, 0, [])) := ⟨by decide +kernel, rfl, trivial⟩
theorem e_PF_fact_50 : okE R_PF 0 b_PF_fact (50, (.aload_n 0, 51, 0, 0, 0, 0, 0, [])) := ⟨by decide +kernel, rfl, rfl⟩
theorem e_PF_fact_51 : okE R_PF 0 b_PF_fact (51, (.getfield 19, 54, 0, 0, 0, 1, 2, [])) := ⟨by decide +kernel, rfl, ⟨_, _, _, rfl, by decide, wf_PF_19, rfl, rfl⟩⟩
theorem e_PF_fact_54 : okE R_PF 0 b_PF_fact (54, (.iload_n 1, 55, 0, 0, 1, 0, 0, [])) := ⟨by decide +kernel, rfl, rfl⟩
theorem e_PF_fact_55 : okE R_PF 0 b_PF_fact (55, (.iload 5, 57, 0, 0, 5, 0, 0, [])) := ⟨by decide +kernel, rfl, rfl⟩
theorem e_PF_fact_57 : okE R_PF 0 b_PF_fact (57, (.invokevirtual 70, 60, 0, 0, 3, 0, 0, [])) := ⟨by decide +kernel, rfl, trivial⟩
theorem e_PF_fact_60 : okE R_PF 0 b_PF_fact (60, (.aload_n 0, 61, 0, 0, 0, 0, 0, [])) := ⟨by decide +kernel, rfl, rfl⟩
theorem e_PF_fact_61 : okE R_PF 0 b_PF_fact (61, (.iconst 1, 62, 1, 0, 0, 0, 0, [])) := ⟨by decide +kernel, rfl, rfl⟩
theorem e_PF_fact_62 : okE R_PF 0 b_PF_fact (62, (.iload_n 1, 63, 0, 0, 1, 0, 0, [])) := ⟨by decide +kernel, rfl, rfl⟩
theorem e_PF_fact_63 : okE R_PF 0 b_PF_fact (63, (.ishl, 64, 0, 0, 0, 0, 0, [])) := ⟨by decide +kernel, rfl, trivial⟩
theorem e_PF_fact_64 : okE R_PF 0 b_PF_fact (64, (.invokevirtual 74, 67, 0, 0, 4, 0, 0, [])) := ⟨by decide +kernel, rfl, trivial⟩
theorem e_PF_fact_67 : okE R_PF 0 b_PF_fact (67, (.iconst 1, 68, 1, 0, 0, 0, 0, [])) := ⟨by decide +kernel, rfl, rfl⟩
theorem e_PF_fact_68 : okE R_PF 0 b_PF_fact (68, (.ireturn, 69, 0, 0, 0, 0, 0, [])) := ⟨by decide +kernel, rfl, trivial⟩
def k_PF_fact : List (Nat × En) := [(0, (.aload_n 0, 1, 0, 0, 0, 0, 0, [])), (1, (.getfield 19, 4, 0, 0, 0, 1, 2, [])), (4, (.iload_n 1, 5, 0, 0, 1, 0, 0, [])), (5, (.invokevirtual 58, 8, 0, 0, 0, 0, 0, [])), (8, (.ifCond .eq 16, 11, 0, 0, 24, 0, 0, [])), (11, (.aload_n 0, 12, 0, 0, 0, 0, 0, [])), (12, (.getfield 19, 15, 0, 0, 0, 1, 2, [])), (15, (.iload_n 1, 16, 0, 0, 1, 0, 0, [])), (16, (.iload_n 2, 17, 0, 0, 2, 0, 0, [])), (17, (.iload_n 3, 18, 0, 0, 3, 0, 0, [])), (18, (.invokevirtual 62, 21, 0, 0, 1, 0, 0, [])), (21, (.goto 4, 24, 0, 0, 25, 0, 0, [])), (24, (.iconst (-1), 25, (-1), 0, 0, 0, 0, [])), (25, (.istore 5, 27, 0, 0, 5, 0, 0, [])), (27, (.iload 5, 29, 0, 0, 5, 0, 0, [])), (29, (.iconst (-1), 30, (-1), 0, 0, 0, 0, [])), (30, (.if_icmp .eq 18, 33, 0, 0, 48, 0, 0, [])), (33, (.aload_n 0, 34, 0, 0, 0, 0, 0, [])), (34, (.getfield 19, 37, 0, 0, 0, 1, 2, [])), (37, (.iload_n 1, 38, 0, 0, 1, 0, 0, [])), (38, (.iload 5, 40, 0, 0, 5, 0, 0, [])), (40, (.invokevirtual 66, 43, 0, 0, 2, 0, 0, [])), (43, (.iload 4, 45, 0, 0, 4, 0, 0, [])), (45, (.if_icmp .ne 5, 48, 0, 0, 50, 0, 0, [])), (48, (.iconst 0, 49, 0, 0, 0, 0, 0, [])), (49, (.ireturn, 50, 0, 0, 0, 0, 0, [])), (50, (.aload_n 0, 51, 0, 0, 0, 0, 0, [])), (51, (.getfield 19, 54, 0, 0, 0, 1, 2, [])), (54, (.iload_n 1, 55, 0, 0, 1, 0, 0, [])), (55, (.iload 5, 57, 0, 0, 5, 0, 0, [])), (57, (.invokevirtual 70, 60, 0, 0, 3, 0, 0, [])), (60, (.aload_n 0, 61, 0, 0, 0, 0, 0, [])), (61, (.iconst 1, 62, 1, 0, 0, 0, 0, [])), (62, (.iload_n 1, 63, 0, 0, 1, 0, 0, [])), (63, (.ishl, 64, 0, 0, 0, 0, 0, [])), (64, (.invokevirtual 74, 67, 0, 0, 4, 0, 0, [])), (67, (.iconst 1, 68, 1, 0, 0, 0, 0, [])), (68, (.ireturn, 69, 0, 0, 0, 0, 0, []))]
set_option maxRecDepth 100000 in
theorem ok_PF_fact : ∀ x ∈ k_PF_fact, okE R_PF 0 b_PF_fact x := fc e_PF_fact_0 (fc e_PF_fact_1 (fc e_PF_fact_4 (fc e_PF_fact_5 (fc e_PF_fact_8 (fc e_PF_fact_11 (fc e_PF_fact_12 (fc e_PF_fact_15 (fc e_PF_fact_16 (fc e_PF_fact_17 (fc e_PF_fact_18 (fc e_PF_fact_21 (fc e_PF_fact_24 (fc e_PF_fact_25 (fc e_PF_fact_27 (fc e_PF_fact_29 (fc e_PF_fact_30 (fc e_PF_fact_33 (fc e_PF_fact_34 (fc e_PF_fact_37 (fc e_PF_fact_38 (fc e_PF_fact_40 (fc e_PF_fact_43 (fc e_PF_fact_45 (fc e_PF_fact_48 (fc e_PF_fact_49 (fc e_PF_fact_50 (fc e_PF_fact_51 (fc e_PF_fact_54 (fc e_PF_fact_55 (fc e_PF_fact_57 (fc e_PF_fact_60 (fc e_PF_fact_61 (fc e_PF_fact_62 (fc e_PF_fact_63 (fc e_PF_fact_64 (fc e_PF_fact_67 (fc e_PF_fact_68 (fun _ h => absurd h List.not_mem_nil))))))))))))))))))))))))))))))))))))))
theorem rt_PF_fact : ∀ x ∈ k_PF_fact, okR 1 x.2.1 = true := by decide +kernel
theorem e_PF_isValue_0 : okE R_PF 0 b_PF_isValue (0, (.iload_n 0, 1, 0, 0, 0, 0, 0, [])) := ⟨by decide +kernel, rfl, rfl⟩
theorem e_PF_isValue_1 : okE R_PF 0 b_PF_isValue (1, (.ifCond .lt 13, 4, 0, 0, 14, 0, 0, [])) := ⟨by decide +kernel, rfl, rfl⟩
theorem e_PF_isValue_4 : okE R_PF 0 b_PF_isValue (4, (.iload_n 0, 5, 0, 0, 0, 0, 0, [])) := ⟨by decide +kernel, rfl, rfl⟩
theorem e_PF_isValue_5 : okE R_PF 0 b_PF_isValue (5, (.bipush 6, 7, 6, 0, 0, 0, 0, [])) := ⟨by decide +kernel, rfl, rfl⟩
theorem e_PF_isValue_7 : okE R_PF 0 b_PF_isValue (7, (.if_icmp .ge 7, 10, 0, 0, 14, 0, 0, [])) := ⟨by decide +kernel, rfl, rfl⟩
theorem e_PF_isValue_10 : okE R_PF 0 b_PF_isValue (10, (.iconst 1, 11, 1, 0, 0, 0, 0, [])) := ⟨by decide +kernel, rfl, rfl⟩
theorem e_PF_isValue_11 : okE R_PF 0 b_PF_isValue (11, (.goto 4, 14, 0, 0, 15, 0, 0, [])) := ⟨by decide +kernel, rfl, rfl⟩
theorem e_PF_isValue_14 : okE R_PF 0 b_PF_isValue (14, (.iconst 0, 15, 0, 0, 0, 0, 0, [])) := ⟨by decide +kernel, rfl, rfl⟩
theorem e_PF_isValue_15 : okE R_PF 0 b_PF_isValue (15, (.ireturn, 16, 0, 0, 0, 0, 0, [])) := ⟨by decide +kernel, rfl, trivial⟩
def k_PF_isValue : List (Nat × En) := [(0, (.iload_n 0, 1, 0, 0, 0, 0, 0, [])), (1, (.ifCond .lt 13, 4, 0, 0, 14, 0, 0, [])), (4, (.iload_n 0, 5, 0, 0, 0, 0, 0, [])), (5, (.bipush 6, 7, 6, 0, 0, 0, 0, [])), (7, (.if_icmp .ge 7, 10, 0, 0, 14, 0, 0, [])), (10, (.iconst 1, 11, 1, 0, 0, 0, 0, [])), (11, (.goto 4, 14, 0, 0, 15, 0, 0, [])), (14, (.iconst 0, 15, 0, 0, 0, 0, 0, [])), (15, (.ireturn, 16, 0, 0, 0, 0, 0, []))]
set_option maxRecDepth 100000 in
theorem ok_PF_isValue : ∀ x ∈ k_PF_isValue, okE R_PF 0 b_PF_isValue x := fc e_PF_isValue_0 (fc e_PF_isValue_1 (fc e_PF_isValue_4 (fc e_PF_isValue_5 (fc e_PF_isValue_7 (fc e_PF_isValue_10 (fc e_PF_isValue_11 (fc e_PF_isValue_14 (fc e_PF_isValue_15 (fun _ h => absurd h List.not_mem_nil)))))))))
theorem rt_PF_isValue : ∀ x ∈ k_PF_isValue, okR 1 x.2.1 = true := by decide +kernel
theorem e_PF_cell_0 : okE R_PF 0 b_PF_cell (0, (.iload_n 0, 1, 0, 0, 0, 0, 0, [])) := ⟨by decide +kernel, rfl, rfl⟩
theorem e_PF_cell_1 : okE R_PF 0 b_PF_cell (1, (.bipush 6, 3, 6, 0, 0, 0, 0, [])) := ⟨by decide +kernel, rfl, rfl⟩
theorem e_PF_cell_3 : okE R_PF 0 b_PF_cell (3, (.imul, 4, 0, 0, 0, 0, 0, [])) := ⟨by decide +kernel, rfl, trivial⟩
theorem e_PF_cell_4 : okE R_PF 0 b_PF_cell (4, (.iload_n 1, 5, 0, 0, 1, 0, 0, [])) := ⟨by decide +kernel, rfl, rfl⟩
theorem e_PF_cell_5 : okE R_PF 0 b_PF_cell (5, (.iadd, 6, 0, 0, 0, 0, 0, [])) := ⟨by decide +kernel, rfl, trivial⟩
theorem e_PF_cell_6 : okE R_PF 0 b_PF_cell (6, (.ireturn, 7, 0, 0, 0, 0, 0, [])) := ⟨by decide +kernel, rfl, trivial⟩
def k_PF_cell : List (Nat × En) := [(0, (.iload_n 0, 1, 0, 0, 0, 0, 0, [])), (1, (.bipush 6, 3, 6, 0, 0, 0, 0, [])), (3, (.imul, 4, 0, 0, 0, 0, 0, [])), (4, (.iload_n 1, 5, 0, 0, 1, 0, 0, [])), (5, (.iadd, 6, 0, 0, 0, 0, 0, [])), (6, (.ireturn, 7, 0, 0, 0, 0, 0, []))]
set_option maxRecDepth 100000 in
theorem ok_PF_cell : ∀ x ∈ k_PF_cell, okE R_PF 0 b_PF_cell x := fc e_PF_cell_0 (fc e_PF_cell_1 (fc e_PF_cell_3 (fc e_PF_cell_4 (fc e_PF_cell_5 (fc e_PF_cell_6 (fun _ h => absurd h List.not_mem_nil))))))
theorem rt_PF_cell : ∀ x ∈ k_PF_cell, okR 0 x.2.1 = true := by decide +kernel
theorem e_PF_follow_0 : okE R_PF 0 b_PF_follow (0, (.aload_n 0, 1, 0, 0, 0, 0, 0, [])) := ⟨by decide +kernel, rfl, rfl⟩
theorem e_PF_follow_1 : okE R_PF 0 b_PF_follow (1, (.getfield 26, 4, 0, 0, 0, 2, 2, [])) := ⟨by decide +kernel, rfl, ⟨_, _, _, rfl, by decide, wf_PF_26, rfl, rfl⟩⟩
theorem e_PF_follow_4 : okE R_PF 0 b_PF_follow (4, (.iload_n 1, 5, 0, 0, 1, 0, 0, [])) := ⟨by decide +kernel, rfl, rfl⟩
theorem e_PF_follow_5 : okE R_PF 0 b_PF_follow (5, (.invokevirtual 210, 8, 0, 0, 0, 0, 0, [])) := ⟨by decide +kernel, rfl, trivial⟩
theorem e_PF_follow_8 : okE R_PF 0 b_PF_follow (8, (.istore_n 2, 9, 0, 0, 2, 0, 0, [])) := ⟨by decide +kernel, rfl, rfl⟩
theorem e_PF_follow_9 : okE R_PF 0 b_PF_follow (9, (.aload_n 0, 10, 0, 0, 0, 0, 0, [])) := ⟨by decide +kernel, rfl, rfl⟩
theorem e_PF_follow_10 : okE R_PF 0 b_PF_follow (10, (.getfield 19, 13, 0, 0, 0, 1, 2, [])) := ⟨by decide +kernel, rfl, ⟨_, _, _, rfl, by decide, wf_PF_19, rfl, rfl⟩⟩
theorem e_PF_follow_13 : okE R_PF 0 b_PF_follow (13, (.invokevirtual 213, 16, 0, 0, 1, 0, 0, [])) := ⟨by decide +kernel, rfl, trivial⟩
theorem e_PF_follow_16 : okE R_PF 0 b_PF_follow (16, (.aload_n 0, 17, 0, 0, 0, 0, 0, [])) := ⟨by decide +kernel, rfl, rfl⟩
theorem e_PF_follow_17 : okE R_PF 0 b_PF_follow (17, (.getfield 19, 20, 0, 0, 0, 1, 2, [])) := ⟨by decide +kernel, rfl, ⟨_, _, _, rfl, by decide, wf_PF_19, rfl, rfl⟩⟩
theorem e_PF_follow_20 : okE R_PF 0 b_PF_follow (20, (.iload_n 2, 21, 0, 0, 2, 0, 0, [])) := ⟨by decide +kernel, rfl, rfl⟩
theorem e_PF_follow_21 : okE R_PF 0 b_PF_follow (21, (.invokevirtual 216, 24, 0, 0, 2, 0, 0, [])) := ⟨by decide +kernel, rfl, trivial⟩
theorem e_PF_follow_24 : okE R_PF 0 b_PF_follow (24, (.iconst 0, 25, 0, 0, 0, 0, 0, [])) := ⟨by decide +kernel, rfl, rfl⟩
theorem e_PF_follow_25 : okE R_PF 0 b_PF_follow (25, (.istore_n 3, 26, 0, 0, 3, 0, 0, [])) := ⟨by decide +kernel, rfl, rfl⟩
theorem e_PF_follow_26 : okE R_PF 0 b_PF_follow (26, (.iload_n 3, 27, 0, 0, 3, 0, 0, [])) := ⟨by decide +kernel, rfl, rfl⟩
theorem e_PF_follow_27 : okE R_PF 0 b_PF_follow (27, (.bipush 6, 29, 6, 0, 0, 0, 0, [])) := ⟨by decide +kernel, rfl, rfl⟩
theorem e_PF_follow_29 : okE R_PF 0 b_PF_follow (29, (.if_icmp .ge 26, 32, 0, 0, 55, 0, 0, [])) := ⟨by decide +kernel, rfl, rfl⟩
theorem e_PF_follow_32 : okE R_PF 0 b_PF_follow (32, (.aload_n 0, 33, 0, 0, 0, 0, 0, [])) := ⟨by decide +kernel, rfl, rfl⟩
theorem e_PF_follow_33 : okE R_PF 0 b_PF_follow (33, (.getfield 36, 36, 0, 0, 0, 3, 2, [])) := ⟨by decide +kernel, rfl, ⟨_, _, _, rfl, by decide, wf_PF_36, rfl, rfl⟩⟩
theorem e_PF_follow_36 : okE R_PF 0 b_PF_follow (36, (.aload_n 0, 37, 0, 0, 0, 0, 0, [])) := ⟨by decide +kernel, rfl, rfl⟩
theorem e_PF_follow_37 : okE R_PF 0 b_PF_follow (37, (.getfield 19, 40, 0, 0, 0, 1, 2, [])) := ⟨by decide +kernel, rfl, ⟨_, _, _, rfl, by decide, wf_PF_19, rfl, rfl⟩⟩
theorem e_PF_follow_40 : okE R_PF 0 b_PF_follow (40, (.aload_n 0, 41, 0, 0, 0, 0, 0, [])) := ⟨by decide +kernel, rfl, rfl⟩
theorem e_PF_follow_41 : okE R_PF 0 b_PF_follow (41, (.getfield 26, 44, 0, 0, 0, 2, 2, [])) := ⟨by decide +kernel, rfl, ⟨_, _, _, rfl, by decide, wf_PF_26, rfl, rfl⟩⟩
theorem e_PF_follow_44 : okE R_PF 0 b_PF_follow (44, (.iload_n 2, 45, 0, 0, 2, 0, 0, [])) := ⟨by decide +kernel, rfl, rfl⟩
theorem e_PF_follow_45 : okE R_PF 0 b_PF_follow (45, (.iload_n 3, 46, 0, 0, 3, 0, 0, [])) := ⟨by decide +kernel, rfl, rfl⟩
theorem e_PF_follow_46 : okE R_PF 0 b_PF_follow (46, (.invokevirtual 219, 49, 0, 0, 3, 0, 0, [])) := ⟨by decide +kernel, rfl, trivial⟩
theorem e_PF_follow_49 : okE R_PF 0 b_PF_follow (49, (.iinc 3 1, 52, 1, 0, 3, 0, 0, [])) := ⟨by decide +kernel, rfl, ⟨rfl, rfl⟩⟩
theorem e_PF_follow_52 : okE R_PF 0 b_PF_follow (52, (.goto (-26), 55, 0, 0, 26, 0, 0, [])) := ⟨by decide +kernel, rfl, rfl⟩
theorem e_PF_follow_55 : okE R_PF 0 b_PF_follow (55, (.aload_n 0, 56, 0, 0, 0, 0, 0, [])) := ⟨by decide +kernel, rfl, rfl⟩
theorem e_PF_follow_56 : okE R_PF 0 b_PF_follow (56, (.aload_n 0, 57, 0, 0, 0, 0, 0, [])) := ⟨by decide +kernel, rfl, rfl⟩
theorem e_PF_follow_57 : okE R_PF 0 b_PF_follow (57, (.getfield 19, 60, 0, 0, 0, 1, 2, [])) := ⟨by decide +kernel, rfl, ⟨_, _, _, rfl, by decide, wf_PF_19, rfl, rfl⟩⟩
theorem e_PF_follow_60 : okE R_PF 0 b_PF_follow (60, (.invokevirtual 223, 63, 0, 0, 4, 0, 0, [])) := ⟨by decide +kernel, rfl, trivial⟩
theorem e_PF_follow_63 : okE R_PF 0 b_PF_follow (63, (.putfield 47, 66, 0, 0, 0, 5, 0, [])) := ⟨by decide +kernel, rfl, ⟨⟨_, _, _, rfl, by decide, wf_PF_47, rfl, rfl⟩, ⟨_, _, _, rfl, Or.inl rfl, tk_PF.1 5 (by decide)⟩⟩⟩
theorem e_PF_follow_66 : okE R_PF 0 b_PF_follow (66, (.return_, 67, 0, 0, 0, 0, 0, [])) := ⟨by decide +kernel, rfl, trivial⟩
def k_PF_follow : List (Nat × En) := [(0, (.aload_n 0, 1, 0, 0, 0, 0, 0, [])), (1, (.getfield 26, 4, 0, 0, 0, 2, 2, [])), (4, (.iload_n 1, 5, 0, 0, 1, 0, 0, [])), (5, (.invokevirtual 210, 8, 0, 0, 0, 0, 0, [])), (8, (.istore_n 2, 9, 0, 0, 2, 0, 0, [])), (9, (.aload_n 0, 10, 0, 0, 0, 0, 0, [])), (10, (.getfield 19, 13, 0, 0, 0, 1, 2, [])), (13, (.invokevirtual 213, 16, 0, 0, 1, 0, 0, [])), (16, (.aload_n 0, 17, 0, 0, 0, 0, 0, [])), (17, (.getfield 19, 20, 0, 0, 0, 1, 2, [])), (20, (.iload_n 2, 21, 0, 0, 2, 0, 0, [])), (21, (.invokevirtual 216, 24, 0, 0, 2, 0, 0, [])), (24, (.iconst 0, 25, 0, 0, 0, 0, 0, [])), (25, (.istore_n 3, 26, 0, 0, 3, 0, 0, [])), (26, (.iload_n 3, 27, 0, 0, 3, 0, 0, [])), (27, (.bipush 6, 29, 6, 0, 0, 0, 0, [])), (29, (.if_icmp .ge 26, 32, 0, 0, 55, 0, 0, [])), (32, (.aload_n 0, 33, 0, 0, 0, 0, 0, [])), (33, (.getfield 36, 36, 0, 0, 0, 3, 2, [])), (36, (.aload_n 0, 37, 0, 0, 0, 0, 0, [])), (37, (.getfield 19, 40, 0, 0, 0, 1, 2, [])), (40, (.aload_n 0, 41, 0, 0, 0, 0, 0, [])), (41, (.getfield 26, 44, 0, 0, 0, 2, 2, [])), (44, (.iload_n 2, 45, 0, 0, 2, 0, 0, [])), (45, (.iload_n 3, 46, 0, 0, 3, 0, 0, [])), (46, (.invokevirtual 219, 49, 0, 0, 3, 0, 0, [])), (49, (.iinc 3 1, 52, 1, 0, 3, 0, 0, [])), (52, (.goto (-26), 55, 0, 0, 26, 0, 0, [])), (55, (.aload_n 0, 56, 0, 0, 0, 0, 0, [])), (56, (.aload_n 0, 57, 0, 0, 0, 0, 0, [])), (57, (.getfield 19, 60, 0, 0, 0, 1, 2, [])), (60, (.invokevirtual 223, 63, 0, 0, 4, 0, 0, [])), (63, (.putfield 47, 66, 0, 0, 0, 5, 0, [])), (66, (.return_, 67, 0, 0, 0, 0, 0, []))]
set_option maxRecDepth 100000 in
theorem ok_PF_follow : ∀ x ∈ k_PF_follow, okE R_PF 0 b_PF_follow x := fc e_PF_follow_0 (fc e_PF_follow_1 (fc e_PF_follow_4 (fc e_PF_follow_5 (fc e_PF_follow_8 (fc e_PF_follow_9 (fc e_PF_follow_10 (fc e_PF_follow_13 (fc e_PF_follow_16 (fc e_PF_follow_17 (fc e_PF_follow_20 (fc e_PF_follow_21 (fc e_PF_follow_24 (fc e_PF_follow_25 (fc e_PF_follow_26 (fc e_PF_follow_27 (fc e_PF_follow_29 (fc e_PF_follow_32 (fc e_PF_follow_33 (fc e_PF_follow_36 (fc e_PF_follow_37 (fc e_PF_follow_40 (fc e_PF_follow_41 (fc e_PF_follow_44 (fc e_PF_follow_45 (fc e_PF_follow_46 (fc e_PF_follow_49 (fc e_PF_follow_52 (fc e_PF_follow_55 (fc e_PF_follow_56 (fc e_PF_follow_57 (fc e_PF_follow_60 (fc e_PF_follow_63 (fc e_PF_follow_66 (fun _ h => absurd h List.not_mem_nil))))))))))))))))))))))))))))))))))
theorem rt_PF_follow : ∀ x ∈ k_PF_follow, okR 3 x.2.1 = true := by decide +kernel
theorem e_PF_isIn_0 : okE R_PF 0 b_PF_isIn (0, (.iload_n 1, 1, 0, 0, 1, 0, 0, [])) := ⟨by decide +kernel, rfl, rfl⟩
theorem e_PF_isIn_1 : okE R_PF 0 b_PF_isIn (1, (.iload_n 0, 2, 0, 0, 0, 0, 0, [])) := ⟨by decide +kernel, rfl, rfl⟩
theorem e_PF_isIn_2 : okE R_PF 0 b_PF_isIn (2, (.ishr, 3, 0, 0, 0, 0, 0, [])) := ⟨by decide +kernel, rfl, trivial⟩
theorem e_PF_isIn_3 : okE R_PF 0 b_PF_isIn (3, (.iconst 1, 4, 1, 0, 0, 0, 0, [])) := ⟨by decide +kernel, rfl, rfl⟩
theorem e_PF_isIn_4 : okE R_PF 0 b_PF_isIn (4, (.iand, 5, 0, 0, 0, 0, 0, [])) := ⟨by decide +kernel, rfl, trivial⟩
theorem e_PF_isIn_5 : okE R_PF 0 b_PF_isIn (5, (.ifCond .eq 7, 8, 0, 0, 12, 0, 0, [])) := ⟨by decide +kernel, rfl, rfl⟩
theorem e_PF_isIn_8 : okE R_PF 0 b_PF_isIn (8, (.iconst 1, 9, 1, 0, 0, 0, 0, [])) := ⟨by decide +kernel, rfl, rfl⟩
theorem e_PF_isIn_9 : okE R_PF 0 b_PF_isIn (9, (.goto 4, 12, 0, 0, 13, 0, 0, [])) := ⟨by decide +kernel, rfl, rfl⟩
theorem e_PF_isIn_12 : okE R_PF 0 b_PF_isIn (12, (.iconst 0, 13, 0, 0, 0, 0, 0, [])) := ⟨by decide +kernel, rfl, rfl⟩
theorem e_PF_isIn_13 : okE R_PF 0 b_PF_isIn (13, (.ireturn, 14, 0, 0, 0, 0, 0, [])) := ⟨by decide +kernel, rfl, trivial⟩
def k_PF_isIn : List (Nat × En) := [(0, (.iload_n 1, 1, 0, 0, 1, 0, 0, [])), (1, (.iload_n 0, 2, 0, 0, 0, 0, 0, [])), (2, (.ishr, 3, 0, 0, 0, 0, 0, [])), (3, (.iconst 1, 4, 1, 0, 0, 0, 0, [])), (4, (.iand, 5, 0, 0, 0, 0, 0, [])), (5, (.ifCond .eq 7, 8, 0, 0, 12, 0, 0, [])), (8, (.iconst 1, 9, 1, 0, 0, 0, 0, [])), (9, (.goto 4, 12, 0, 0, 13, 0, 0, [])), (12, (.iconst 0, 13, 0, 0, 0, 0, 0, [])), (13, (.ireturn, 14, 0, 0, 0, 0, 0, []))]
set_option maxRecDepth 100000 in
theorem ok_PF_isIn : ∀ x ∈ k_PF_isIn, okE R_PF 0 b_PF_isIn x := fc e_PF_isIn_0 (fc e_PF_isIn_1 (fc e_PF_isIn_2 (fc e_PF_isIn_3 (fc e_PF_isIn_4 (fc e_PF_isIn_5 (fc e_PF_isIn_8 (fc e_PF_isIn_9 (fc e_PF_isIn_12 (fc e_PF_isIn_13 (fun _ h => absurd h List.not_mem_nil))))))))))
theorem rt_PF_isIn : ∀ x ∈ k_PF_isIn, okR 1 x.2.1 = true := by decide +kernel
theorem e_PF_literal_0 : okE R_PF 0 b_PF_literal (0, (.aload_n 0, 1, 0, 0, 0, 0, 0, [])) := ⟨by decide +kernel, rfl, rfl⟩
theorem e_PF_literal_1 : okE R_PF 0 b_PF_literal (1, (.getfield 26, 4, 0, 0, 0, 2, 2, [])) := ⟨by decide +kernel, rfl, ⟨_, _, _, rfl, by decide, wf_PF_26, rfl, rfl⟩⟩
theorem e_PF_literal_4 : okE R_PF 0 b_PF_literal (4, (.getfield 78, 7, 0, 0, 3, 4, 0, [])) := ⟨by decide +kernel, rfl, ⟨_, _, _, rfl, by decide, wf_PF_78, rfl, rfl⟩⟩
theorem e_PF_literal_7 : okE R_PF 0 b_PF_literal (7, (.iconst 4, 8, 4, 0, 0, 0, 0, [])) := ⟨by decide +kernel, rfl, rfl⟩
theorem e_PF_literal_8 : okE R_PF 0 b_PF_literal (8, (.if_icmp .ge 14, 11, 0, 0, 22, 0, 0, [])) := ⟨by decide +kernel, rfl, rfl⟩
theorem e_PF_literal_11 : okE R_PF 0 b_PF_literal (11, (.aload_n 0, 12, 0, 0, 0, 0, 0, [])) := ⟨by decide +kernel, rfl, rfl⟩
theorem e_PF_literal_12 : okE R_PF 0 b_PF_literal (12, (.getfield 19, 15, 0, 0, 0, 1, 2, [])) := ⟨by decide +kernel, rfl, ⟨_, _, _, rfl, by decide, wf_PF_19, rfl, rfl⟩⟩
theorem e_PF_literal_15 : okE R_PF 0 b_PF_literal (15, (.iload_n 1, 16, 0, 0, 1, 0, 0, [])) := ⟨by decide +kernel, rfl, rfl⟩
theorem e_PF_literal_16 : okE R_PF 0 b_PF_literal (16, (.invokevirtual 81, 19, 0, 0, 0, 0, 0, [])) := ⟨by decide +kernel, rfl, trivial⟩
theorem e_PF_literal_19 : okE R_PF 0 b_PF_literal (19, (.ifCond .ne 5, 22, 0, 0, 24, 0, 0, [])) := ⟨by decide +kernel, rfl, rfl⟩
theorem e_PF_literal_22 : okE R_PF 0 b_PF_literal (22, (.iconst (-1), 23, (-1), 0, 0, 0, 0, [])) := ⟨by decide +kernel, rfl, rfl⟩
theorem e_PF_literal_23 : okE R_PF 0 b_PF_literal (23, (.ireturn, 24, 0, 0, 0, 0, 0, [])) := ⟨by decide +kernel, rfl, trivial⟩
theorem e_PF_literal_24 : okE R_PF 0 b_PF_literal (24, (.aload_n 0, 25, 0, 0, 0, 0, 0, [])) := ⟨by decide +kernel, rfl, rfl⟩
theorem e_PF_literal_25 : okE R_PF 0 b_PF_literal (25, (.getfield 26, 28, 0, 0, 0, 2, 2, [])) := ⟨by decide +kernel, rfl, ⟨_, _, _, rfl, by decide, wf_PF_26, rfl, rfl⟩⟩
theorem e_PF_literal_28 : okE R_PF 0 b_PF_literal (28, (.getfield 78, 31, 0, 0, 3, 4, 0, [])) := ⟨by decide +kernel, rfl, ⟨_, _, _, rfl, by decide, wf_PF_78, rfl, rfl⟩⟩
theorem e_PF_literal_31 : okE R_PF 0 b_PF_literal (31, (.ifCond .ne 21, 34, 0, 0, 52, 0, 0, [])) := ⟨by decide +kernel, rfl, rfl⟩
theorem e_PF_literal_34 : okE R_PF 0 b_PF_literal (34, (.iload 4, 36, 0, 0, 4, 0, 0, [])) := ⟨by decide +kernel, rfl, rfl⟩
theorem e_PF_literal_36 : okE R_PF 0 b_PF_literal (36, (.ifCond .ne 14, 39, 0, 0, 50, 0, 0, [])) := ⟨by decide +kernel, rfl, rfl⟩
theorem e_PF_literal_39 : okE R_PF 0 b_PF_literal (39, (.aload_n 0, 40, 0, 0, 0, 0, 0, [])) := ⟨by decide +kernel, rfl, rfl⟩
theorem e_PF_literal_40 : okE R_PF 0 b_PF_literal (40, (.getfield 19, 43, 0, 0, 0, 1, 2, [])) := ⟨by decide +kernel, rfl, ⟨_, _, _, rfl, by decide, wf_PF_19, rfl, rfl⟩⟩
theorem e_PF_literal_43 : okE R_PF 0 b_PF_literal (43, (.iload_n 1, 44, 0, 0, 1, 0, 0, [])) := ⟨by decide +kernel, rfl, rfl⟩
theorem e_PF_literal_44 : okE R_PF 0 b_PF_literal (44, (.invokevirtual 58, 47, 0, 0, 1, 0, 0, [])) := ⟨by decide +kernel, rfl, trivial⟩
theorem e_PF_literal_47 : okE R_PF 0 b_PF_literal (47, (.ifCond .ne 5, 50, 0, 0, 52, 0, 0, [])) := ⟨by decide +kernel, rfl, rfl⟩
theorem e_PF_literal_50 : okE R_PF 0 b_PF_literal (50, (.iconst (-1), 51, (-1), 0, 0, 0, 0, [])) := ⟨by decide +kernel, rfl, rfl⟩
theorem e_PF_literal_51 : okE R_PF 0 b_PF_literal (51, (.ireturn, 52, 0, 0, 0, 0, 0, [])) := ⟨by decide +kernel, rfl, trivial⟩
theorem e_PF_literal_52 : okE R_PF 0 b_PF_literal (52, (.aload_n 0, 53, 0, 0, 0, 0, 0, [])) := ⟨by decide +kernel, rfl, rfl⟩
theorem e_PF_literal_53 : okE R_PF 0 b_PF_literal (53, (.getfield 19, 56, 0, 0, 0, 1, 2, [])) := ⟨by decide +kernel, rfl, ⟨_, _, _, rfl, by decide, wf_PF_19, rfl, rfl⟩⟩
theorem e_PF_literal_56 : okE R_PF 0 b_PF_literal (56, (.iload_n 1, 57, 0, 0, 1, 0, 0, [])) := ⟨by decide +kernel, rfl, rfl⟩
theorem e_PF_literal_57 : okE R_PF 0 b_PF_literal (57, (.iload_n 3, 58, 0, 0, 3, 0, 0, [])) := ⟨by decide +kernel, rfl, rfl⟩
theorem e_PF_literal_58 : okE R_PF 0 b_PF_literal (58, (.invokevirtual 84, 61, 0, 0, 2, 0, 0, [])) := ⟨by decide +kernel, rfl, trivial⟩
theorem e_PF_literal_61 : okE R_PF 0 b_PF_literal (61, (.istore 5, 63, 0, 0, 5, 0, 0, [])) := ⟨by decide +kernel, rfl, rfl⟩
theorem e_PF_literal_63 : okE R_PF 0 b_PF_literal (63, (.iload_n 2, 64, 0, 0, 2, 0, 0, [])) := ⟨by decide +kernel, rfl, rfl⟩
theorem e_PF_literal_64 : okE R_PF 0 b_PF_literal (64, (.invokestatic 88, 67, 0, 0, 3, 0, 0, [])) := ⟨by decide +kernel, rfl, trivial⟩
theorem e_PF_literal_67 : okE R_PF 0 b_PF_literal (67, (.ifCond .eq 11, 70, 0, 0, 78, 0, 0, [])) := ⟨by decide +kernel, rfl, rfl⟩
theorem e_PF_literal_70 : okE R_PF 0 b_PF_literal (70, (.iload 5, 72, 0, 0, 5, 0, 0, [])) := ⟨by decide +kernel, rfl, rfl⟩
theorem e_PF_literal_72 : okE R_PF 0 b_PF_literal (72, (.invokestatic 88, 75, 0, 0, 3, 0, 0, [])) := ⟨by decide +kernel, rfl, trivial⟩
theorem e_PF_literal_75 : okE R_PF 0 b_PF_literal (75, (.ifCond .ne 5, 78, 0, 0, 80, 0, 0, [])) := ⟨by decide +kernel, rfl, rfl⟩
theorem e_PF_literal_78 : okE R_PF 0 b_PF_literal (78, (.iconst (-1), 79, (-1), 0, 0, 0, 0, [])) := ⟨by decide +kernel, rfl, rfl⟩
theorem e_PF_literal_79 : okE R_PF 0 b_PF_literal (79, (.ireturn, 80, 0, 0, 0, 0, 0, [])) := ⟨by decide +kernel, rfl, trivial⟩
theorem e_PF_literal_80 : okE R_PF 0 b_PF_literal (80, (.aload_n 0, 81, 0, 0, 0, 0, 0, [])) := ⟨by decide +kernel, rfl, rfl⟩
theorem e_PF_literal_81 : okE R_PF 0 b_PF_literal (81, (.getfield 26, 84, 0, 0, 0, 2, 2, [])) := ⟨by decide +kernel, rfl, ⟨_, _, _, rfl, by decide, wf_PF_26, rfl, rfl⟩⟩
theorem e_PF_literal_84 : okE R_PF 0 b_PF_literal (84, (.iload_n 1, 85, 0, 0, 1, 0, 0, [])) := ⟨by decide +kernel, rfl, rfl⟩
theorem e_PF_literal_85 : okE R_PF 0 b_PF_literal (85, (.iload_n 2, 86, 0, 0, 2, 0, 0, [])) := ⟨by decide +kernel, rfl, rfl⟩
theorem e_PF_literal_86 : okE R_PF 0 b_PF_literal (86, (.iload 5, 88, 0, 0, 5, 0, 0, [])) := ⟨by decide +kernel, rfl, rfl⟩
theorem e_PF_literal_88 : okE R_PF 0 b_PF_literal (88, (.iload 4, 90, 0, 0, 4, 0, 0, [])) := ⟨by decide +kernel, rfl, rfl⟩
theorem e_PF_literal_90 : okE R_PF 0 b_PF_literal (90, (.invokevirtual 91, 93, 0, 0, 4, 0, 0, [])) := ⟨by decide +kernel, rfl, trivial⟩
theorem e_PF_literal_93 : okE R_PF 0 b_PF_literal (93, (.aload_n 0, 94, 0, 0, 0, 0, 0, [])) := ⟨by decide +kernel, rfl, rfl⟩
theorem e_PF_literal_94 : okE R_PF 0 b_PF_literal (94, (.getfield 26, 97, 0, 0, 0, 2, 2, [])) := ⟨by decide +kernel, rfl, ⟨_, _, _, rfl, by decide, wf_PF_26, rfl, rfl⟩⟩
theorem e_PF_literal_97 : okE R_PF 0 b_PF_literal (97, (.getfield 78, 100, 0, 0, 3, 4, 0, [])) := ⟨by decide +kernel, rfl, ⟨_, _, _, rfl, by decide, wf_PF_78, rfl, rfl⟩⟩
theorem e_PF_literal_100 : okE R_PF 0 b_PF_literal (100, (.ireturn, 101, 0, 0, 0, 0, 0, [])) := ⟨by decide +kernel, rfl, trivial⟩
def k_PF_literal : List (Nat × En) := [(0, (.aload_n 0, 1, 0, 0, 0, 0, 0, [])), (1, (.getfield 26, 4, 0, 0, 0, 2, 2, [])), (4, (.getfield 78, 7, 0, 0, 3, 4, 0, [])), (7, (.iconst 4, 8, 4, 0, 0, 0, 0, [])), (8, (.if_icmp .ge 14, 11, 0, 0, 22, 0, 0, [])), (11, (.aload_n 0, 12, 0, 0, 0, 0, 0, [])), (12, (.getfield 19, 15, 0, 0, 0, 1, 2, [])), (15, (.iload_n 1, 16, 0, 0, 1, 0, 0, [])), (16, (.invokevirtual 81, 19, 0, 0, 0, 0, 0, [])), (19, (.ifCond .ne 5, 22, 0, 0, 24, 0, 0, [])), (22, (.iconst (-1), 23, (-1), 0, 0, 0, 0, [])), (23, (.ireturn, 24, 0, 0, 0, 0, 0, [])), (24, (.aload_n 0, 25, 0, 0, 0, 0, 0, [])), (25, (.getfield 26, 28, 0, 0, 0, 2, 2, [])), (28, (.getfield 78, 31, 0, 0, 3, 4, 0, [])), (31, (.ifCond .ne 21, 34, 0, 0, 52, 0, 0, [])), (34, (.iload 4, 36, 0, 0, 4, 0, 0, [])), (36, (.ifCond .ne 14, 39, 0, 0, 50, 0, 0, [])), (39, (.aload_n 0, 40, 0, 0, 0, 0, 0, [])), (40, (.getfield 19, 43, 0, 0, 0, 1, 2, [])), (43, (.iload_n 1, 44, 0, 0, 1, 0, 0, [])), (44, (.invokevirtual 58, 47, 0, 0, 1, 0, 0, [])), (47, (.ifCond .ne 5, 50, 0, 0, 52, 0, 0, [])), (50, (.iconst (-1), 51, (-1), 0, 0, 0, 0, [])), (51, (.ireturn, 52, 0, 0, 0, 0, 0, [])), (52, (.aload_n 0, 53, 0, 0, 0, 0, 0, [])), (53, (.getfield 19, 56, 0, 0, 0, 1, 2, [])), (56, (.iload_n 1, 57, 0, 0, 1, 0, 0, [])), (57, (.iload_n 3, 58, 0, 0, 3, 0, 0, [])), (58, (.invokevirtual 84, 61, 0, 0, 2, 0, 0, [])), (61, (.istore 5, 63, 0, 0, 5, 0, 0, [])), (63, (.iload_n 2, 64, 0, 0, 2, 0, 0, [])), (64, (.invokestatic 88, 67, 0, 0, 3, 0, 0, [])), (67, (.ifCond .eq 11, 70, 0, 0, 78, 0, 0, [])), (70, (.iload 5, 72, 0, 0, 5, 0, 0, [])), (72, (.invokestatic 88, 75, 0, 0, 3, 0, 0, [])), (75, (.ifCond .ne 5, 78, 0, 0, 80, 0, 0, [])), (78, (.iconst (-1), 79, (-1), 0, 0, 0, 0, [])), (79, (.ireturn, 80, 0, 0, 0, 0, 0, [])), (80, (.aload_n 0, 81, 0, 0, 0, 0, 0, [])), (81, (.getfield 26, 84, 0, 0, 0, 2, 2, [])), (84, (.iload_n 1, 85, 0, 0, 1, 0, 0, [])), (85, (.iload_n 2, 86, 0, 0, 2, 0, 0, [])), (86, (.iload 5, 88, 0, 0, 5, 0, 0, [])), (88, (.iload 4, 90, 0, 0, 4, 0, 0, [])), (90, (.invokevirtual 91, 93, 0, 0, 4, 0, 0, [])), (93, (.aload_n 0, 94, 0, 0, 0, 0, 0, [])), (94, (.getfield 26, 97, 0, 0, 0, 2, 2, [])), (97, (.getfield 78, 100, 0, 0, 3, 4, 0, [])), (100, (.ireturn, 101, 0, 0, 0, 0, 0, []))]
set_option maxRecDepth 100000 in
theorem ok_PF_literal : ∀ x ∈ k_PF_literal, okE R_PF 0 b_PF_literal x := fc e_PF_literal_0 (fc e_PF_literal_1 (fc e_PF_literal_4 (fc e_PF_literal_7 (fc e_PF_literal_8 (fc e_PF_literal_11 (fc e_PF_literal_12 (fc e_PF_literal_15 (fc e_PF_literal_16 (fc e_PF_literal_19 (fc e_PF_literal_22 (fc e_PF_literal_23 (fc e_PF_literal_24 (fc e_PF_literal_25 (fc e_PF_literal_28 (fc e_PF_literal_31 (fc e_PF_literal_34 (fc e_PF_literal_36 (fc e_PF_literal_39 (fc e_PF_literal_40 (fc e_PF_literal_43 (fc e_PF_literal_44 (fc e_PF_literal_47 (fc e_PF_literal_50 (fc e_PF_literal_51 (fc e_PF_literal_52 (fc e_PF_literal_53 (fc e_PF_literal_56 (fc e_PF_literal_57 (fc e_PF_literal_58 (fc e_PF_literal_61 (fc e_PF_literal_63 (fc e_PF_literal_64 (fc e_PF_literal_67 (fc e_PF_literal_70 (fc e_PF_literal_72 (fc e_PF_literal_75 (fc e_PF_literal_78 (fc e_PF_literal_79 (fc e_PF_literal_80 (fc e_PF_literal_81 (fc e_PF_literal_84 (fc e_PF_literal_85 (fc e_PF_literal_86 (fc e_PF_literal_88 (fc e_PF_literal_90 (fc e_PF_literal_93 (fc e_PF_literal_94 (fc e_PF_literal_97 (fc e_PF_literal_100 (fun _ h => absurd h List.not_mem_nil))))))))))))))))))))))))))))))))))))))))))))))))))
theorem rt_PF_literal : ∀ x ∈ k_PF_literal, okR 0 x.2.1 = true := by decide +kernel
theorem e_PF_isTerm_0 : okE R_PF 0 b_PF_isTerm (0, (.iload_n 0, 1, 0, 0, 0, 0, 0, [])) := ⟨by decide +kernel, rfl, rfl⟩
theorem e_PF_isTerm_1 : okE R_PF 0 b_PF_isTerm (1, (.invokestatic 116, 4, 0, 0, 0, 0, 0, [])) := ⟨by decide +kernel, rfl, trivial⟩
theorem e_PF_isTerm_4 : okE R_PF 0 b_PF_isTerm (4, (.ifCond .ne 15, 7, 0, 0, 19, 0, 0, [])) := ⟨by decide +kernel, rfl, rfl⟩
theorem e_PF_isTerm_7 : okE R_PF 0 b_PF_isTerm (7, (.iload_n 0, 8, 0, 0, 0, 0, 0, [])) := ⟨by decide +kernel, rfl, rfl⟩
theorem e_PF_isTerm_8 : okE R_PF 0 b_PF_isTerm (8, (.bipush 10, 10, 10, 0, 0, 0, 0, [])) := ⟨by decide +kernel, rfl, rfl⟩
theorem e_PF_isTerm_10 : okE R_PF 0 b_PF_isTerm (10, (.if_icmp .lt 13, 13, 0, 0, 23, 0, 0, [])) := ⟨by decide +kernel, rfl, rfl⟩
theorem e_PF_isTerm_13 : okE R_PF 0 b_PF_isTerm (13, (.iload_n 0, 14, 0, 0, 0, 0, 0, [])) := ⟨by decide +kernel, rfl, rfl⟩
theorem e_PF_isTerm_14 : okE R_PF 0 b_PF_isTerm (14, (.bipush 13, 16, 13, 0, 0, 0, 0, [])) := ⟨by decide +kernel, rfl, rfl⟩
theorem e_PF_isTerm_16 : okE R_PF 0 b_PF_isTerm (16, (.if_icmp .gt 7, 19, 0, 0, 23, 0, 0, [])) := ⟨by decide +kernel, rfl, rfl⟩
theorem e_PF_isTerm_19 : okE R_PF 0 b_PF_isTerm (19, (.iconst 1, 20, 1, 0, 0, 0, 0, [])) := ⟨by decide +kernel, rfl, rfl⟩
theorem e_PF_isTerm_20 : okE R_PF 0 b_PF_isTerm (20, (.goto 4, 23, 0, 0, 24, 0, 0, [])) := ⟨by decide +kernel, rfl, rfl⟩
theorem e_PF_isTerm_23 : okE R_PF 0 b_PF_isTerm (23, (.iconst 0, 24, 0, 0, 0, 0, 0, [])) := ⟨by decide +kernel, rfl, rfl⟩
theorem e_PF_isTerm_24 : okE R_PF 0 b_PF_isTerm (24, (.ireturn, 25, 0, 0, 0, 0, 0, [])) := ⟨by decide +kernel, rfl, trivial⟩
def k_PF_isTerm : List (Nat × En) := [(0, (.iload_n 0, 1, 0, 0, 0, 0, 0, [])), (1, (.invokestatic 116, 4, 0, 0, 0, 0, 0, [])), (4, (.ifCond .ne 15, 7, 0, 0, 19, 0, 0, [])), (7, (.iload_n 0, 8, 0, 0, 0, 0, 0, [])), (8, (.bipush 10, 10, 10, 0, 0, 0, 0, [])), (10, (.if_icmp .lt 13, 13, 0, 0, 23, 0, 0, [])), (13, (.iload_n 0, 14, 0, 0, 0, 0, 0, [])), (14, (.bipush 13, 16, 13, 0, 0, 0, 0, [])), (16, (.if_icmp .gt 7, 19, 0, 0, 23, 0, 0, [])), (19, (.iconst 1, 20, 1, 0, 0, 0, 0, [])), (20, (.goto 4, 23, 0, 0, 24, 0, 0, [])), (23, (.iconst 0, 24, 0, 0, 0, 0, 0, [])), (24, (.ireturn, 25, 0, 0, 0, 0, 0, []))]
set_option maxRecDepth 100000 in
theorem ok_PF_isTerm : ∀ x ∈ k_PF_isTerm, okE R_PF 0 b_PF_isTerm x := fc e_PF_isTerm_0 (fc e_PF_isTerm_1 (fc e_PF_isTerm_4 (fc e_PF_isTerm_7 (fc e_PF_isTerm_8 (fc e_PF_isTerm_10 (fc e_PF_isTerm_13 (fc e_PF_isTerm_14 (fc e_PF_isTerm_16 (fc e_PF_isTerm_19 (fc e_PF_isTerm_20 (fc e_PF_isTerm_23 (fc e_PF_isTerm_24 (fun _ h => absurd h List.not_mem_nil)))))))))))))
theorem rt_PF_isTerm : ∀ x ∈ k_PF_isTerm, okR 1 x.2.1 = true := by decide +kernel
theorem e_PF_rule_0 : okE R_PF 0 b_PF_rule (0, (.aload_n 0, 1, 0, 0, 0, 0, 0, [])) := ⟨by decide +kernel, rfl, rfl⟩
theorem e_PF_rule_1 : okE R_PF 0 b_PF_rule (1, (.getfield 26, 4, 0, 0, 0, 2, 2, [])) := ⟨by decide +kernel, rfl, ⟨_, _, _, rfl, by decide, wf_PF_26, rfl, rfl⟩⟩
theorem e_PF_rule_4 : okE R_PF 0 b_PF_rule (4, (.invokevirtual 95, 7, 0, 0, 0, 0, 0, [])) := ⟨by decide +kernel, rfl, trivial⟩
theorem e_PF_rule_7 : okE R_PF 0 b_PF_rule (7, (.istore_n 1, 8, 0, 0, 1, 0, 0, [])) := ⟨by decide +kernel, rfl, rfl⟩
theorem e_PF_rule_8 : okE R_PF 0 b_PF_rule (8, (.aload_n 0, 9, 0, 0, 0, 0, 0, [])) := ⟨by decide +kernel, rfl, rfl⟩
theorem e_PF_rule_9 : okE R_PF 0 b_PF_rule (9, (.getfield 26, 12, 0, 0, 0, 2, 2, [])) := ⟨by decide +kernel, rfl, ⟨_, _, _, rfl, by decide, wf_PF_26, rfl, rfl⟩⟩
theorem e_PF_rule_12 : okE R_PF 0 b_PF_rule (12, (.invokevirtual 99, 15, 0, 0, 1, 0, 0, [])) := ⟨by decide +kernel, rfl, trivial⟩
theorem e_PF_rule_15 : okE R_PF 0 b_PF_rule (15, (.iload_n 1, 16, 0, 0, 1, 0, 0, [])) := ⟨by decide +kernel, rfl, rfl⟩
theorem e_PF_rule_16 : okE R_PF 0 b_PF_rule (16, (.ifCond .lt 17, 19, 0, 0, 33, 0, 0, [])) := ⟨by decide +kernel, rfl, rfl⟩
theorem e_PF_rule_19 : okE R_PF 0 b_PF_rule (19, (.aload_n 0, 20, 0, 0, 0, 0, 0, [])) := ⟨by decide +kernel, rfl, rfl⟩
theorem e_PF_rule_20 : okE R_PF 0 b_PF_rule (20, (.iconst 1, 21, 1, 0, 0, 0, 0, [])) := ⟨by decide +kernel, rfl, rfl⟩
theorem e_PF_rule_21 : okE R_PF 0 b_PF_rule (21, (.aload_n 0, 22, 0, 0, 0, 0, 0, [])) := ⟨by decide +kernel, rfl, rfl⟩
theorem e_PF_rule_22 : okE R_PF 0 b_PF_rule (22, (.getfield 26, 25, 0, 0, 0, 2, 2, [])) := ⟨by decide +kernel, rfl, ⟨_, _, _, rfl, by decide, wf_PF_26, rfl, rfl⟩⟩
theorem e_PF_rule_25 : okE R_PF 0 b_PF_rule (25, (.iload_n 1, 26, 0, 0, 1, 0, 0, [])) := ⟨by decide +kernel, rfl, rfl⟩
theorem e_PF_rule_26 : okE R_PF 0 b_PF_rule (26, (.invokevirtual 102, 29, 0, 0, 2, 0, 0, [])) := ⟨by decide +kernel, rfl, trivial⟩
theorem e_PF_rule_29 : okE R_PF 0 b_PF_rule (29, (.ishl, 30, 0, 0, 0, 0, 0, [])) := ⟨by decide +kernel, rfl, trivial⟩
theorem e_PF_rule_30 : okE R_PF 0 b_PF_rule (30, (.invokevirtual 74, 33, 0, 0, 3, 0, 0, [])) := ⟨by decide +kernel, rfl, trivial⟩
theorem e_PF_rule_33 : okE R_PF 0 b_PF_rule (33, (.iload_n 1, 34, 0, 0, 1, 0, 0, [])) := ⟨by decide +kernel, rfl, rfl⟩
theorem e_PF_rule_34 : okE R_PF 0 b_PF_rule (34, (.ireturn, 35, 0, 0, 0, 0, 0, [])) := ⟨by decide +kernel, rfl, trivial⟩
def k_PF_rule : List (Nat × En) := [(0, (.aload_n 0, 1, 0, 0, 0, 0, 0, [])), (1, (.getfield 26, 4, 0, 0, 0, 2, 2, [])), (4, (.invokevirtual 95, 7, 0, 0, 0, 0, 0, [])), (7, (.istore_n 1, 8, 0, 0, 1, 0, 0, [])), (8, (.aload_n 0, 9, 0, 0, 0, 0, 0, [])), (9, (.getfield 26, 12, 0, 0, 0, 2, 2, [])), (12, (.invokevirtual 99, 15, 0, 0, 1, 0, 0, [])), (15, (.iload_n 1, 16, 0, 0, 1, 0, 0, [])), (16, (.ifCond .lt 17, 19, 0, 0, 33, 0, 0, [])), (19, (.aload_n 0, 20, 0, 0, 0, 0, 0, [])), (20, (.iconst 1, 21, 1, 0, 0, 0, 0, [])), (21, (.aload_n 0, 22, 0, 0, 0, 0, 0, [])), (22, (.getfield 26, 25, 0, 0, 0, 2, 2, [])), (25, (.iload_n 1, 26, 0, 0, 1, 0, 0, [])), (26, (.invokevirtual 102, 29, 0, 0, 2, 0, 0, [])), (29, (.ishl, 30, 0, 0, 0, 0, 0, [])), (30, (.invokevirtual 74, 33, 0, 0, 3, 0, 0, [])), (33, (.iload_n 1, 34, 0, 0, 1, 0, 0, [])), (34, (.ireturn, 35, 0, 0, 0, 0, 0, []))]
set_option maxRecDepth 100000 in
theorem ok_PF_rule : ∀ x ∈ k_PF_rule, okE R_PF 0 b_PF_rule x := fc e_PF_rule_0 (fc e_PF_rule_1 (fc e_PF_rule_4 (fc e_PF_rule_7 (fc e_PF_rule_8 (fc e_PF_rule_9 (fc e_PF_rule_12 (fc e_PF_rule_15 (fc e_PF_rule_16 (fc e_PF_rule_19 (fc e_PF_rule_20 (fc e_PF_rule_21 (fc e_PF_rule_22 (fc e_PF_rule_25 (fc e_PF_rule_26 (fc e_PF_rule_29 (fc e_PF_rule_30 (fc e_PF_rule_33 (fc e_PF_rule_34 (fun _ h => absurd h List.not_mem_nil)))))))))))))))))))
theorem rt_PF_rule : ∀ x ∈ k_PF_rule, okR 0 x.2.1 = true := by decide +kernel
theorem e_PF_forget_0 : okE R_PF 0 b_PF_forget (0, (.aload_n 0, 1, 0, 0, 0, 0, 0, [])) := ⟨by decide +kernel, rfl, rfl⟩
theorem e_PF_forget_1 : okE R_PF 0 b_PF_forget (1, (.getfield 26, 4, 0, 0, 0, 2, 2, [])) := ⟨by decide +kernel, rfl, ⟨_, _, _, rfl, by decide, wf_PF_26, rfl, rfl⟩⟩
theorem e_PF_forget_4 : okE R_PF 0 b_PF_forget (4, (.iload_n 1, 5, 0, 0, 1, 0, 0, [])) := ⟨by decide +kernel, rfl, rfl⟩
theorem e_PF_forget_5 : okE R_PF 0 b_PF_forget (5, (.invokevirtual 105, 8, 0, 0, 0, 0, 0, [])) := ⟨by decide +kernel, rfl, trivial⟩
theorem e_PF_forget_8 : okE R_PF 0 b_PF_forget (8, (.ifCond .ne 5, 11, 0, 0, 13, 0, 0, [])) := ⟨by decide +kernel, rfl, rfl⟩
theorem e_PF_forget_11 : okE R_PF 0 b_PF_forget (11, (.iconst 0, 12, 0, 0, 0, 0, 0, [])) := ⟨by decide +kernel, rfl, rfl⟩
theorem e_PF_forget_12 : okE R_PF 0 b_PF_forget (12, (.ireturn, 13, 0, 0, 0, 0, 0, [])) := ⟨by decide +kernel, rfl, trivial⟩
theorem e_PF_forget_13 : okE R_PF 0 b_PF_forget (13, (.aload_n 0, 14, 0, 0, 0, 0, 0, [])) := ⟨by decide +kernel, rfl, rfl⟩
theorem e_PF_forget_14 : okE R_PF 0 b_PF_forget (14, (.getfield 26, 17, 0, 0, 0, 2, 2, [])) := ⟨by decide +kernel, rfl, ⟨_, _, _, rfl, by decide, wf_PF_26, rfl, rfl⟩⟩
theorem e_PF_forget_17 : okE R_PF 0 b_PF_forget (17, (.iload_n 1, 18, 0, 0, 1, 0, 0, [])) := ⟨by decide +kernel, rfl, rfl⟩
theorem e_PF_forget_18 : okE R_PF 0 b_PF_forget (18, (.invokevirtual 106, 21, 0, 0, 1, 0, 0, [])) := ⟨by decide +kernel, rfl, trivial⟩
theorem e_PF_forget_21 : okE R_PF 0 b_PF_forget (21, (.aload_n 0, 22, 0, 0, 0, 0, 0, [])) := ⟨by decide +kernel, rfl, rfl⟩
theorem e_PF_forget_22 : okE R_PF 0 b_PF_forget (22, (.getfield 26, 25, 0, 0, 0, 2, 2, [])) := ⟨by decide +kernel, rfl, ⟨_, _, _, rfl, by decide, wf_PF_26, rfl, rfl⟩⟩
theorem e_PF_forget_25 : okE R_PF 0 b_PF_forget (25, (.invokevirtual 109, 28, 0, 0, 2, 0, 0, [])) := ⟨by decide +kernel, rfl, trivial⟩
theorem e_PF_forget_28 : okE R_PF 0 b_PF_forget (28, (.pop, 29, 0, 0, 0, 0, 0, [])) := ⟨by decide +kernel, rfl, trivial⟩
theorem e_PF_forget_29 : okE R_PF 0 b_PF_forget (29, (.aload_n 0, 30, 0, 0, 0, 0, 0, [])) := ⟨by decide +kernel, rfl, rfl⟩
theorem e_PF_forget_30 : okE R_PF 0 b_PF_forget (30, (.iconst 1, 31, 1, 0, 0, 0, 0, [])) := ⟨by decide +kernel, rfl, rfl⟩
theorem e_PF_forget_31 : okE R_PF 0 b_PF_forget (31, (.aload_n 0, 32, 0, 0, 0, 0, 0, [])) := ⟨by decide +kernel, rfl, rfl⟩
theorem e_PF_forget_32 : okE R_PF 0 b_PF_forget (32, (.getfield 26, 35, 0, 0, 0, 2, 2, [])) := ⟨by decide +kernel, rfl, ⟨_, _, _, rfl, by decide, wf_PF_26, rfl, rfl⟩⟩
theorem e_PF_forget_35 : okE R_PF 0 b_PF_forget (35, (.iload_n 1, 36, 0, 0, 1, 0, 0, [])) := ⟨by decide +kernel, rfl, rfl⟩
theorem e_PF_forget_36 : okE R_PF 0 b_PF_forget (36, (.invokevirtual 102, 39, 0, 0, 3, 0, 0, [])) := ⟨by decide +kernel, rfl, trivial⟩
theorem e_PF_forget_39 : okE R_PF 0 b_PF_forget (39, (.ishl, 40, 0, 0, 0, 0, 0, [])) := ⟨by decide +kernel, rfl, trivial⟩
theorem e_PF_forget_40 : okE R_PF 0 b_PF_forget (40, (.invokevirtual 74, 43, 0, 0, 4, 0, 0, [])) := ⟨by decide +kernel, rfl, trivial⟩
theorem e_PF_forget_43 : okE R_PF 0 b_PF_forget (43, (.iconst 1, 44, 1, 0, 0, 0, 0, [])) := ⟨by decide +kernel, rfl, rfl⟩
theorem e_PF_forget_44 : okE R_PF 0 b_PF_forget (44, (.ireturn, 45, 0, 0, 0, 0, 0, [])) := ⟨by decide +kernel, rfl, trivial⟩
def k_PF_forget : List (Nat × En) := [(0, (.aload_n 0, 1, 0, 0, 0, 0, 0, [])), (1, (.getfield 26, 4, 0, 0, 0, 2, 2, [])), (4, (.iload_n 1, 5, 0, 0, 1, 0, 0, [])), (5, (.invokevirtual 105, 8, 0, 0, 0, 0, 0, [])), (8, (.ifCond .ne 5, 11, 0, 0, 13, 0, 0, [])), (11, (.iconst 0, 12, 0, 0, 0, 0, 0, [])), (12, (.ireturn, 13, 0, 0, 0, 0, 0, [])), (13, (.aload_n 0, 14, 0, 0, 0, 0, 0, [])), (14, (.getfield 26, 17, 0, 0, 0, 2, 2, [])), (17, (.iload_n 1, 18, 0, 0, 1, 0, 0, [])), (18, (.invokevirtual 106, 21, 0, 0, 1, 0, 0, [])), (21, (.aload_n 0, 22, 0, 0, 0, 0, 0, [])), (22, (.getfield 26, 25, 0, 0, 0, 2, 2, [])), (25, (.invokevirtual 109, 28, 0, 0, 2, 0, 0, [])), (28, (.pop, 29, 0, 0, 0, 0, 0, [])), (29, (.aload_n 0, 30, 0, 0, 0, 0, 0, [])), (30, (.iconst 1, 31, 1, 0, 0, 0, 0, [])), (31, (.aload_n 0, 32, 0, 0, 0, 0, 0, [])), (32, (.getfield 26, 35, 0, 0, 0, 2, 2, [])), (35, (.iload_n 1, 36, 0, 0, 1, 0, 0, [])), (36, (.invokevirtual 102, 39, 0, 0, 3, 0, 0, [])), (39, (.ishl, 40, 0, 0, 0, 0, 0, [])), (40, (.invokevirtual 74, 43, 0, 0, 4, 0, 0, [])), (43, (.iconst 1, 44, 1, 0, 0, 0, 0, [])), (44, (.ireturn, 45, 0, 0, 0, 0, 0, []))]
set_option maxRecDepth 100000 in
theorem ok_PF_forget : ∀ x ∈ k_PF_forget, okE R_PF 0 b_PF_forget x := fc e_PF_forget_0 (fc e_PF_forget_1 (fc e_PF_forget_4 (fc e_PF_forget_5 (fc e_PF_forget_8 (fc e_PF_forget_11 (fc e_PF_forget_12 (fc e_PF_forget_13 (fc e_PF_forget_14 (fc e_PF_forget_17 (fc e_PF_forget_18 (fc e_PF_forget_21 (fc e_PF_forget_22 (fc e_PF_forget_25 (fc e_PF_forget_28 (fc e_PF_forget_29 (fc e_PF_forget_30 (fc e_PF_forget_31 (fc e_PF_forget_32 (fc e_PF_forget_35 (fc e_PF_forget_36 (fc e_PF_forget_39 (fc e_PF_forget_40 (fc e_PF_forget_43 (fc e_PF_forget_44 (fun _ h => absurd h List.not_mem_nil)))))))))))))))))))))))))
theorem rt_PF_forget : ∀ x ∈ k_PF_forget, okR 1 x.2.1 = true := by decide +kernel
theorem e_PF_edit_0 : okE R_PF 0 b_PF_edit (0, (.iload_n 1, 1, 0, 0, 1, 0, 0, [])) := ⟨by decide +kernel, rfl, rfl⟩
theorem e_PF_edit_1 : okE R_PF 0 b_PF_edit (1, (.invokestatic 113, 4, 0, 0, 0, 0, 0, [])) := ⟨by decide +kernel, rfl, trivial⟩
theorem e_PF_edit_4 : okE R_PF 0 b_PF_edit (4, (.ifCond .eq 14, 7, 0, 0, 18, 0, 0, [])) := ⟨by decide +kernel, rfl, rfl⟩
theorem e_PF_edit_7 : okE R_PF 0 b_PF_edit (7, (.iload_n 2, 8, 0, 0, 2, 0, 0, [])) := ⟨by decide +kernel, rfl, rfl⟩
theorem e_PF_edit_8 : okE R_PF 0 b_PF_edit (8, (.iconst (-1), 9, (-1), 0, 0, 0, 0, [])) := ⟨by decide +kernel, rfl, rfl⟩
theorem e_PF_edit_9 : okE R_PF 0 b_PF_edit (9, (.if_icmp .lt 9, 12, 0, 0, 18, 0, 0, [])) := ⟨by decide +kernel, rfl, rfl⟩
theorem e_PF_edit_12 : okE R_PF 0 b_PF_edit (12, (.iload_n 2, 13, 0, 0, 2, 0, 0, [])) := ⟨by decide +kernel, rfl, rfl⟩
theorem e_PF_edit_13 : okE R_PF 0 b_PF_edit (13, (.bipush 6, 15, 6, 0, 0, 0, 0, [])) := ⟨by decide +kernel, rfl, rfl⟩
theorem e_PF_edit_15 : okE R_PF 0 b_PF_edit (15, (.if_icmp .lt 5, 18, 0, 0, 20, 0, 0, [])) := ⟨by decide +kernel, rfl, rfl⟩
theorem e_PF_edit_18 : okE R_PF 0 b_PF_edit (18, (.iconst (-1), 19, (-1), 0, 0, 0, 0, [])) := ⟨by decide +kernel, rfl, rfl⟩
theorem e_PF_edit_19 : okE R_PF 0 b_PF_edit (19, (.ireturn, 20, 0, 0, 0, 0, 0, [])) := ⟨by decide +kernel, rfl, trivial⟩
theorem e_PF_edit_20 : okE R_PF 0 b_PF_edit (20, (.iload_n 2, 21, 0, 0, 2, 0, 0, [])) := ⟨by decide +kernel, rfl, rfl⟩
theorem e_PF_edit_21 : okE R_PF 0 b_PF_edit (21, (.iconst (-1), 22, (-1), 0, 0, 0, 0, [])) := ⟨by decide +kernel, rfl, rfl⟩
theorem e_PF_edit_22 : okE R_PF 0 b_PF_edit (22, (.if_icmp .eq 20, 25, 0, 0, 42, 0, 0, [])) := ⟨by decide +kernel, rfl, rfl⟩
theorem e_PF_edit_25 : okE R_PF 0 b_PF_edit (25, (.iload_n 3, 26, 0, 0, 3, 0, 0, [])) := ⟨by decide +kernel, rfl, rfl⟩
theorem e_PF_edit_26 : okE R_PF 0 b_PF_edit (26, (.invokestatic 116, 29, 0, 0, 1, 0, 0, [])) := ⟨by decide +kernel, rfl, trivial⟩
theorem e_PF_edit_29 : okE R_PF 0 b_PF_edit (29, (.ifCond .eq 11, 32, 0, 0, 40, 0, 0, [])) := ⟨by decide +kernel, rfl, rfl⟩
theorem e_PF_edit_32 : okE R_PF 0 b_PF_edit (32, (.iload 4, 34, 0, 0, 4, 0, 0, [])) := ⟨by decide +kernel, rfl, rfl⟩
theorem e_PF_edit_34 : okE R_PF 0 b_PF_edit (34, (.invokestatic 116, 37, 0, 0, 1, 0, 0, [])) := ⟨by decide +kernel, rfl, trivial⟩
theorem e_PF_edit_37 : okE R_PF 0 b_PF_edit (37, (.ifCond .ne 5, 40, 0, 0, 42, 0, 0, [])) := ⟨by decide +kernel, rfl, rfl⟩
theorem e_PF_edit_40 : okE R_PF 0 b_PF_edit (40, (.iconst (-1), 41, (-1), 0, 0, 0, 0, [])) := ⟨by decide +kernel, rfl, rfl⟩
theorem e_PF_edit_41 : okE R_PF 0 b_PF_edit (41, (.ireturn, 42, 0, 0, 0, 0, 0, [])) := ⟨by decide +kernel, rfl, trivial⟩
theorem e_PF_edit_42 : okE R_PF 0 b_PF_edit (42, (.aload_n 0, 43, 0, 0, 0, 0, 0, [])) := ⟨by decide +kernel, rfl, rfl⟩
theorem e_PF_edit_43 : okE R_PF 0 b_PF_edit (43, (.getfield 12, 46, 0, 0, 0, 0, 2, [])) := ⟨by decide +kernel, rfl, ⟨_, _, _, rfl, by decide, wf_PF_12, rfl, rfl⟩⟩
theorem e_PF_edit_46 : okE R_PF 0 b_PF_edit (46, (.iload_n 1, 47, 0, 0, 1, 0, 0, [])) := ⟨by decide +kernel, rfl, rfl⟩
theorem e_PF_edit_47 : okE R_PF 0 b_PF_edit (47, (.iload_n 2, 48, 0, 0, 2, 0, 0, [])) := ⟨by decide +kernel, rfl, rfl⟩
theorem e_PF_edit_48 : okE R_PF 0 b_PF_edit (48, (.iload_n 3, 49, 0, 0, 3, 0, 0, [])) := ⟨by decide +kernel, rfl, rfl⟩
theorem e_PF_edit_49 : okE R_PF 0 b_PF_edit (49, (.iload 4, 51, 0, 0, 4, 0, 0, [])) := ⟨by decide +kernel, rfl, rfl⟩
theorem e_PF_edit_51 : okE R_PF 0 b_PF_edit (51, (.invokevirtual 119, 54, 0, 0, 2, 0, 0, [])) := ⟨by decide +kernel, rfl, trivial⟩
theorem e_PF_edit_54 : okE R_PF 0 b_PF_edit (54, (.aload_n 0, 55, 0, 0, 0, 0, 0, [])) := ⟨by decide +kernel, rfl, rfl⟩
theorem e_PF_edit_55 : okE R_PF 0 b_PF_edit (55, (.getfield 43, 58, 0, 0, 0, 4, 2, [])) := ⟨by decide +kernel, rfl, ⟨_, _, _, rfl, by decide, wf_PF_43, rfl, rfl⟩⟩
theorem e_PF_edit_58 : okE R_PF 0 b_PF_edit (58, (.invokevirtual 123, 61, 0, 0, 3, 0, 0, [])) := ⟨by decide +kernel, rfl, trivial⟩
theorem e_PF_edit_61 : okE R_PF 0 b_PF_edit (61, (.aload_n 0, 62, 0, 0, 0, 0, 0, [])) := ⟨by decide +kernel, rfl, rfl⟩
theorem e_PF_edit_62 : okE R_PF 0 b_PF_edit (62, (.aload_n 0, 63, 0, 0, 0, 0, 0, [])) := ⟨by decide +kernel, rfl, rfl⟩
theorem e_PF_edit_63 : okE R_PF 0 b_PF_edit (63, (.invokevirtual 126, 66, 0, 0, 4, 0, 0, [])) := ⟨by decide +kernel, rfl, trivial⟩
theorem e_PF_edit_66 : okE R_PF 0 b_PF_edit (66, (.invokevirtual 74, 69, 0, 0, 5, 0, 0, [])) := ⟨by decide +kernel, rfl, trivial⟩
theorem e_PF_edit_69 : okE R_PF 0 b_PF_edit (69, (.aload_n 0, 70, 0, 0, 0, 0, 0, [])) := ⟨by decide +kernel, rfl, rfl⟩
theorem e_PF_edit_70 : okE R_PF 0 b_PF_edit (70, (.getfield 12, 73, 0, 0, 0, 0, 2, [])) := ⟨by decide +kernel, rfl, ⟨_, _, _, rfl, by decide, wf_PF_12, rfl, rfl⟩⟩
theorem e_PF_edit_73 : okE R_PF 0 b_PF_edit (73, (.invokevirtual 129, 76, 0, 0, 6, 0, 0, [])) := ⟨by decide +kernel, rfl, trivial⟩
theorem e_PF_edit_76 : okE R_PF 0 b_PF_edit (76, (.ireturn, 77, 0, 0, 0, 0, 0, [])) := ⟨by decide +kernel, rfl, trivial⟩
def k_PF_edit : List (Nat × En) := [(0, (.iload_n 1, 1, 0, 0, 1, 0, 0, [])), (1, (.invokestatic 113, 4, 0, 0, 0, 0, 0, [])), (4, (.ifCond .eq 14, 7, 0, 0, 18, 0, 0, [])), (7, (.iload_n 2, 8, 0, 0, 2, 0, 0, [])), (8, (.iconst (-1), 9, (-1), 0, 0, 0, 0, [])), (9, (.if_icmp .lt 9, 12, 0, 0, 18, 0, 0, [])), (12, (.iload_n 2, 13, 0, 0, 2, 0, 0, [])), (13, (.bipush 6, 15, 6, 0, 0, 0, 0, [])), (15, (.if_icmp .lt 5, 18, 0, 0, 20, 0, 0, [])), (18, (.iconst (-1), 19, (-1), 0, 0, 0, 0, [])), (19, (.ireturn, 20, 0, 0, 0, 0, 0, [])), (20, (.iload_n 2, 21, 0, 0, 2, 0, 0, [])), (21, (.iconst (-1), 22, (-1), 0, 0, 0, 0, [])), (22, (.if_icmp .eq 20, 25, 0, 0, 42, 0, 0, [])), (25, (.iload_n 3, 26, 0, 0, 3, 0, 0, [])), (26, (.invokestatic 116, 29, 0, 0, 1, 0, 0, [])), (29, (.ifCond .eq 11, 32, 0, 0, 40, 0, 0, [])), (32, (.iload 4, 34, 0, 0, 4, 0, 0, [])), (34, (.invokestatic 116, 37, 0, 0, 1, 0, 0, [])), (37, (.ifCond .ne 5, 40, 0, 0, 42, 0, 0, [])), (40, (.iconst (-1), 41, (-1), 0, 0, 0, 0, [])), (41, (.ireturn, 42, 0, 0, 0, 0, 0, [])), (42, (.aload_n 0, 43, 0, 0, 0, 0, 0, [])), (43, (.getfield 12, 46, 0, 0, 0, 0, 2, [])), (46, (.iload_n 1, 47, 0, 0, 1, 0, 0, [])), (47, (.iload_n 2, 48, 0, 0, 2, 0, 0, [])), (48, (.iload_n 3, 49, 0, 0, 3, 0, 0, [])), (49, (.iload 4, 51, 0, 0, 4, 0, 0, [])), (51, (.invokevirtual 119, 54, 0, 0, 2, 0, 0, [])), (54, (.aload_n 0, 55, 0, 0, 0, 0, 0, [])), (55, (.getfield 43, 58, 0, 0, 0, 4, 2, [])), (58, (.invokevirtual 123, 61, 0, 0, 3, 0, 0, [])), (61, (.aload_n 0, 62, 0, 0, 0, 0, 0, [])), (62, (.aload_n 0, 63, 0, 0, 0, 0, 0, [])), (63, (.invokevirtual 126, 66, 0, 0, 4, 0, 0, [])), (66, (.invokevirtual 74, 69, 0, 0, 5, 0, 0, [])), (69, (.aload_n 0, 70, 0, 0, 0, 0, 0, [])), (70, (.getfield 12, 73, 0, 0, 0, 0, 2, [])), (73, (.invokevirtual 129, 76, 0, 0, 6, 0, 0, [])), (76, (.ireturn, 77, 0, 0, 0, 0, 0, []))]
set_option maxRecDepth 100000 in
theorem ok_PF_edit : ∀ x ∈ k_PF_edit, okE R_PF 0 b_PF_edit x := fc e_PF_edit_0 (fc e_PF_edit_1 (fc e_PF_edit_4 (fc e_PF_edit_7 (fc e_PF_edit_8 (fc e_PF_edit_9 (fc e_PF_edit_12 (fc e_PF_edit_13 (fc e_PF_edit_15 (fc e_PF_edit_18 (fc e_PF_edit_19 (fc e_PF_edit_20 (fc e_PF_edit_21 (fc e_PF_edit_22 (fc e_PF_edit_25 (fc e_PF_edit_26 (fc e_PF_edit_29 (fc e_PF_edit_32 (fc e_PF_edit_34 (fc e_PF_edit_37 (fc e_PF_edit_40 (fc e_PF_edit_41 (fc e_PF_edit_42 (fc e_PF_edit_43 (fc e_PF_edit_46 (fc e_PF_edit_47 (fc e_PF_edit_48 (fc e_PF_edit_49 (fc e_PF_edit_51 (fc e_PF_edit_54 (fc e_PF_edit_55 (fc e_PF_edit_58 (fc e_PF_edit_61 (fc e_PF_edit_62 (fc e_PF_edit_63 (fc e_PF_edit_66 (fc e_PF_edit_69 (fc e_PF_edit_70 (fc e_PF_edit_73 (fc e_PF_edit_76 (fun _ h => absurd h List.not_mem_nil))))))))))))))))))))))))))))))))))))))))
theorem rt_PF_edit : ∀ x ∈ k_PF_edit, okR 0 x.2.1 = true := by decide +kernel
theorem e_PF_isLine_0 : okE R_PF 0 b_PF_isLine (0, (.iload_n 0, 1, 0, 0, 0, 0, 0, [])) := ⟨by decide +kernel, rfl, rfl⟩
theorem e_PF_isLine_1 : okE R_PF 0 b_PF_isLine (1, (.ifCond .lt 13, 4, 0, 0, 14, 0, 0, [])) := ⟨by decide +kernel, rfl, rfl⟩
theorem e_PF_isLine_4 : okE R_PF 0 b_PF_isLine (4, (.iload_n 0, 5, 0, 0, 0, 0, 0, [])) := ⟨by decide +kernel, rfl, rfl⟩
theorem e_PF_isLine_5 : okE R_PF 0 b_PF_isLine (5, (.bipush 12, 7, 12, 0, 0, 0, 0, [])) := ⟨by decide +kernel, rfl, rfl⟩
theorem e_PF_isLine_7 : okE R_PF 0 b_PF_isLine (7, (.if_icmp .ge 7, 10, 0, 0, 14, 0, 0, [])) := ⟨by decide +kernel, rfl, rfl⟩
theorem e_PF_isLine_10 : okE R_PF 0 b_PF_isLine (10, (.iconst 1, 11, 1, 0, 0, 0, 0, [])) := ⟨by decide +kernel, rfl, rfl⟩
theorem e_PF_isLine_11 : okE R_PF 0 b_PF_isLine (11, (.goto 4, 14, 0, 0, 15, 0, 0, [])) := ⟨by decide +kernel, rfl, rfl⟩
theorem e_PF_isLine_14 : okE R_PF 0 b_PF_isLine (14, (.iconst 0, 15, 0, 0, 0, 0, 0, [])) := ⟨by decide +kernel, rfl, rfl⟩
theorem e_PF_isLine_15 : okE R_PF 0 b_PF_isLine (15, (.ireturn, 16, 0, 0, 0, 0, 0, [])) := ⟨by decide +kernel, rfl, trivial⟩
def k_PF_isLine : List (Nat × En) := [(0, (.iload_n 0, 1, 0, 0, 0, 0, 0, [])), (1, (.ifCond .lt 13, 4, 0, 0, 14, 0, 0, [])), (4, (.iload_n 0, 5, 0, 0, 0, 0, 0, [])), (5, (.bipush 12, 7, 12, 0, 0, 0, 0, [])), (7, (.if_icmp .ge 7, 10, 0, 0, 14, 0, 0, [])), (10, (.iconst 1, 11, 1, 0, 0, 0, 0, [])), (11, (.goto 4, 14, 0, 0, 15, 0, 0, [])), (14, (.iconst 0, 15, 0, 0, 0, 0, 0, [])), (15, (.ireturn, 16, 0, 0, 0, 0, 0, []))]
set_option maxRecDepth 100000 in
theorem ok_PF_isLine : ∀ x ∈ k_PF_isLine, okE R_PF 0 b_PF_isLine x := fc e_PF_isLine_0 (fc e_PF_isLine_1 (fc e_PF_isLine_4 (fc e_PF_isLine_5 (fc e_PF_isLine_7 (fc e_PF_isLine_10 (fc e_PF_isLine_11 (fc e_PF_isLine_14 (fc e_PF_isLine_15 (fun _ h => absurd h List.not_mem_nil)))))))))
theorem rt_PF_isLine : ∀ x ∈ k_PF_isLine, okR 1 x.2.1 = true := by decide +kernel
theorem e_PF_readFacts_0 : okE R_PF 0 b_PF_readFacts (0, (.iconst 0, 1, 0, 0, 0, 0, 0, [])) := ⟨by decide +kernel, rfl, rfl⟩
theorem e_PF_readFacts_1 : okE R_PF 0 b_PF_readFacts (1, (.istore_n 1, 2, 0, 0, 1, 0, 0, [])) := ⟨by decide +kernel, rfl, rfl⟩
theorem e_PF_readFacts_2 : okE R_PF 0 b_PF_readFacts (2, (.iconst 0, 3, 0, 0, 0, 0, 0, [])) := ⟨by decide +kernel, rfl, rfl⟩
theorem e_PF_readFacts_3 : okE R_PF 0 b_PF_readFacts (3, (.istore_n 2, 4, 0, 0, 2, 0, 0, [])) := ⟨by decide +kernel, rfl, rfl⟩
theorem e_PF_readFacts_4 : okE R_PF 0 b_PF_readFacts (4, (.iload_n 2, 5, 0, 0, 2, 0, 0, [])) := ⟨by decide +kernel, rfl, rfl⟩
theorem e_PF_readFacts_5 : okE R_PF 0 b_PF_readFacts (5, (.bipush 6, 7, 6, 0, 0, 0, 0, [])) := ⟨by decide +kernel, rfl, rfl⟩
theorem e_PF_readFacts_7 : okE R_PF 0 b_PF_readFacts (7, (.if_icmp .ge 48, 10, 0, 0, 55, 0, 0, [])) := ⟨by decide +kernel, rfl, rfl⟩
theorem e_PF_readFacts_10 : okE R_PF 0 b_PF_readFacts (10, (.aload_n 0, 11, 0, 0, 0, 0, 0, [])) := ⟨by decide +kernel, rfl, rfl⟩
theorem e_PF_readFacts_11 : okE R_PF 0 b_PF_readFacts (11, (.getfield 12, 14, 0, 0, 0, 0, 2, [])) := ⟨by decide +kernel, rfl, ⟨_, _, _, rfl, by decide, wf_PF_12, rfl, rfl⟩⟩
theorem e_PF_readFacts_14 : okE R_PF 0 b_PF_readFacts (14, (.iload_n 2, 15, 0, 0, 2, 0, 0, [])) := ⟨by decide +kernel, rfl, rfl⟩
theorem e_PF_readFacts_15 : okE R_PF 0 b_PF_readFacts (15, (.invokevirtual 203, 18, 0, 0, 0, 0, 0, [])) := ⟨by decide +kernel, rfl, trivial⟩
theorem e_PF_readFacts_18 : okE R_PF 0 b_PF_readFacts (18, (.lstore_n 3, 19, 0, 0, 3, 0, 0, [])) := ⟨by decide +kernel, rfl, rfl⟩
theorem e_PF_readFacts_19 : okE R_PF 0 b_PF_readFacts (19, (.lload_n 3, 20, 0, 0, 3, 0, 0, [])) := ⟨by decide +kernel, rfl, rfl⟩
theorem e_PF_readFacts_20 : okE R_PF 0 b_PF_readFacts (20, (.aload_n 0, 21, 0, 0, 0, 0, 0, [])) := ⟨by decide +kernel, rfl, rfl⟩
theorem e_PF_readFacts_21 : okE R_PF 0 b_PF_readFacts (21, (.getfield 19, 24, 0, 0, 0, 1, 2, [])) := ⟨by decide +kernel, rfl, ⟨_, _, _, rfl, by decide, wf_PF_19, rfl, rfl⟩⟩
theorem e_PF_readFacts_24 : okE R_PF 0 b_PF_readFacts (24, (.getfield 207, 27, 0, 0, 2, 1, 2, [])) := ⟨by decide +kernel, rfl, ⟨_, _, _, rfl, by decide, wf_PF_207, rfl, rfl⟩⟩
theorem e_PF_readFacts_27 : okE R_PF 0 b_PF_readFacts (27, (.iload_n 2, 28, 0, 0, 2, 0, 0, [])) := ⟨by decide +kernel, rfl, rfl⟩
theorem e_PF_readFacts_28 : okE R_PF 0 b_PF_readFacts (28, (.laload, 29, 0, 0, 0, 0, 0, [])) := ⟨by decide +kernel, rfl, trivial⟩
theorem e_PF_readFacts_29 : okE R_PF 0 b_PF_readFacts (29, (.lcmp, 30, 0, 0, 0, 0, 0, [])) := ⟨by decide +kernel, rfl, trivial⟩
theorem e_PF_readFacts_30 : okE R_PF 0 b_PF_readFacts (30, (.ifCond .eq 19, 33, 0, 0, 49, 0, 0, [])) := ⟨by decide +kernel, rfl, rfl⟩
theorem e_PF_readFacts_33 : okE R_PF 0 b_PF_readFacts (33, (.aload_n 0, 34, 0, 0, 0, 0, 0, [])) := ⟨by decide +kernel, rfl, rfl⟩
theorem e_PF_readFacts_34 : okE R_PF 0 b_PF_readFacts (34, (.getfield 19, 37, 0, 0, 0, 1, 2, [])) := ⟨by decide +kernel, rfl, ⟨_, _, _, rfl, by decide, wf_PF_19, rfl, rfl⟩⟩
theorem e_PF_readFacts_37 : okE R_PF 0 b_PF_readFacts (37, (.getfield 207, 40, 0, 0, 2, 1, 2, [])) := ⟨by decide +kernel, rfl, ⟨_, _, _, rfl, by decide, wf_PF_207, rfl, rfl⟩⟩
theorem e_PF_readFacts_40 : okE R_PF 0 b_PF_readFacts (40, (.iload_n 2, 41, 0, 0, 2, 0, 0, [])) := ⟨by decide +kernel, rfl, rfl⟩
theorem e_PF_readFacts_41 : okE R_PF 0 b_PF_readFacts (41, (.lload_n 3, 42, 0, 0, 3, 0, 0, [])) := ⟨by decide +kernel, rfl, rfl⟩
theorem e_PF_readFacts_42 : okE R_PF 0 b_PF_readFacts (42, (.lastore, 43, 0, 0, 0, 0, 0, [])) := ⟨by decide +kernel, rfl, trivial⟩
theorem e_PF_readFacts_43 : okE R_PF 0 b_PF_readFacts (43, (.iload_n 1, 44, 0, 0, 1, 0, 0, [])) := ⟨by decide +kernel, rfl, rfl⟩
theorem e_PF_readFacts_44 : okE R_PF 0 b_PF_readFacts (44, (.iconst 1, 45, 1, 0, 0, 0, 0, [])) := ⟨by decide +kernel, rfl, rfl⟩
theorem e_PF_readFacts_45 : okE R_PF 0 b_PF_readFacts (45, (.iload_n 2, 46, 0, 0, 2, 0, 0, [])) := ⟨by decide +kernel, rfl, rfl⟩
theorem e_PF_readFacts_46 : okE R_PF 0 b_PF_readFacts (46, (.ishl, 47, 0, 0, 0, 0, 0, [])) := ⟨by decide +kernel, rfl, trivial⟩
theorem e_PF_readFacts_47 : okE R_PF 0 b_PF_readFacts (47, (.ior, 48, 0, 0, 0, 0, 0, [])) := ⟨by decide +kernel, rfl, trivial⟩
theorem e_PF_readFacts_48 : okE R_PF 0 b_PF_readFacts (48, (.istore_n 1, 49, 0, 0, 1, 0, 0, [])) := ⟨by decide +kernel, rfl, rfl⟩
theorem e_PF_readFacts_49 : okE R_PF 0 b_PF_readFacts (49, (.iinc 2 1, 52, 1, 0, 2, 0, 0, [])) := ⟨by decide +kernel, rfl, ⟨rfl, rfl⟩⟩
theorem e_PF_readFacts_52 : okE R_PF 0 b_PF_readFacts (52, (.goto (-48), 55, 0, 0, 4, 0, 0, [])) := ⟨by decide +kernel, rfl, rfl⟩
theorem e_PF_readFacts_55 : okE R_PF 0 b_PF_readFacts (55, (.iload_n 1, 56, 0, 0, 1, 0, 0, [])) := ⟨by decide +kernel, rfl, rfl⟩
theorem e_PF_readFacts_56 : okE R_PF 0 b_PF_readFacts (56, (.ireturn, 57, 0, 0, 0, 0, 0, [])) := ⟨by decide +kernel, rfl, trivial⟩
def k_PF_readFacts : List (Nat × En) := [(0, (.iconst 0, 1, 0, 0, 0, 0, 0, [])), (1, (.istore_n 1, 2, 0, 0, 1, 0, 0, [])), (2, (.iconst 0, 3, 0, 0, 0, 0, 0, [])), (3, (.istore_n 2, 4, 0, 0, 2, 0, 0, [])), (4, (.iload_n 2, 5, 0, 0, 2, 0, 0, [])), (5, (.bipush 6, 7, 6, 0, 0, 0, 0, [])), (7, (.if_icmp .ge 48, 10, 0, 0, 55, 0, 0, [])), (10, (.aload_n 0, 11, 0, 0, 0, 0, 0, [])), (11, (.getfield 12, 14, 0, 0, 0, 0, 2, [])), (14, (.iload_n 2, 15, 0, 0, 2, 0, 0, [])), (15, (.invokevirtual 203, 18, 0, 0, 0, 0, 0, [])), (18, (.lstore_n 3, 19, 0, 0, 3, 0, 0, [])), (19, (.lload_n 3, 20, 0, 0, 3, 0, 0, [])), (20, (.aload_n 0, 21, 0, 0, 0, 0, 0, [])), (21, (.getfield 19, 24, 0, 0, 0, 1, 2, [])), (24, (.getfield 207, 27, 0, 0, 2, 1, 2, [])), (27, (.iload_n 2, 28, 0, 0, 2, 0, 0, [])), (28, (.laload, 29, 0, 0, 0, 0, 0, [])), (29, (.lcmp, 30, 0, 0, 0, 0, 0, [])), (30, (.ifCond .eq 19, 33, 0, 0, 49, 0, 0, [])), (33, (.aload_n 0, 34, 0, 0, 0, 0, 0, [])), (34, (.getfield 19, 37, 0, 0, 0, 1, 2, [])), (37, (.getfield 207, 40, 0, 0, 2, 1, 2, [])), (40, (.iload_n 2, 41, 0, 0, 2, 0, 0, [])), (41, (.lload_n 3, 42, 0, 0, 3, 0, 0, [])), (42, (.lastore, 43, 0, 0, 0, 0, 0, [])), (43, (.iload_n 1, 44, 0, 0, 1, 0, 0, [])), (44, (.iconst 1, 45, 1, 0, 0, 0, 0, [])), (45, (.iload_n 2, 46, 0, 0, 2, 0, 0, [])), (46, (.ishl, 47, 0, 0, 0, 0, 0, [])), (47, (.ior, 48, 0, 0, 0, 0, 0, [])), (48, (.istore_n 1, 49, 0, 0, 1, 0, 0, [])), (49, (.iinc 2 1, 52, 1, 0, 2, 0, 0, [])), (52, (.goto (-48), 55, 0, 0, 4, 0, 0, [])), (55, (.iload_n 1, 56, 0, 0, 1, 0, 0, [])), (56, (.ireturn, 57, 0, 0, 0, 0, 0, []))]
set_option maxRecDepth 100000 in
theorem ok_PF_readFacts : ∀ x ∈ k_PF_readFacts, okE R_PF 0 b_PF_readFacts x := fc e_PF_readFacts_0 (fc e_PF_readFacts_1 (fc e_PF_readFacts_2 (fc e_PF_readFacts_3 (fc e_PF_readFacts_4 (fc e_PF_readFacts_5 (fc e_PF_readFacts_7 (fc e_PF_readFacts_10 (fc e_PF_readFacts_11 (fc e_PF_readFacts_14 (fc e_PF_readFacts_15 (fc e_PF_readFacts_18 (fc e_PF_readFacts_19 (fc e_PF_readFacts_20 (fc e_PF_readFacts_21 (fc e_PF_readFacts_24 (fc e_PF_readFacts_27 (fc e_PF_readFacts_28 (fc e_PF_readFacts_29 (fc e_PF_readFacts_30 (fc e_PF_readFacts_33 (fc e_PF_readFacts_34 (fc e_PF_readFacts_37 (fc e_PF_readFacts_40 (fc e_PF_readFacts_41 (fc e_PF_readFacts_42 (fc e_PF_readFacts_43 (fc e_PF_readFacts_44 (fc e_PF_readFacts_45 (fc e_PF_readFacts_46 (fc e_PF_readFacts_47 (fc e_PF_readFacts_48 (fc e_PF_readFacts_49 (fc e_PF_readFacts_52 (fc e_PF_readFacts_55 (fc e_PF_readFacts_56 (fun _ h => absurd h List.not_mem_nil))))))))))))))))))))))))))))))))))))
theorem rt_PF_readFacts : ∀ x ∈ k_PF_readFacts, okR 0 x.2.1 = true := by decide +kernel
theorem e_PF_holds_0 : okE R_PF 0 b_PF_holds (0, (.aload_n 0, 1, 0, 0, 0, 0, 0, [])) := ⟨by decide +kernel, rfl, rfl⟩
theorem e_PF_holds_1 : okE R_PF 0 b_PF_holds (1, (.getfield 19, 4, 0, 0, 0, 1, 2, [])) := ⟨by decide +kernel, rfl, ⟨_, _, _, rfl, by decide, wf_PF_19, rfl, rfl⟩⟩
theorem e_PF_holds_4 : okE R_PF 0 b_PF_holds (4, (.iload_n 1, 5, 0, 0, 1, 0, 0, [])) := ⟨by decide +kernel, rfl, rfl⟩
theorem e_PF_holds_5 : okE R_PF 0 b_PF_holds (5, (.iload_n 2, 6, 0, 0, 2, 0, 0, [])) := ⟨by decide +kernel, rfl, rfl⟩
theorem e_PF_holds_6 : okE R_PF 0 b_PF_holds (6, (.iload_n 3, 7, 0, 0, 3, 0, 0, [])) := ⟨by decide +kernel, rfl, rfl⟩
theorem e_PF_holds_7 : okE R_PF 0 b_PF_holds (7, (.invokevirtual 62, 10, 0, 0, 0, 0, 0, [])) := ⟨by decide +kernel, rfl, trivial⟩
theorem e_PF_holds_10 : okE R_PF 0 b_PF_holds (10, (.istore 4, 12, 0, 0, 4, 0, 0, [])) := ⟨by decide +kernel, rfl, rfl⟩
theorem e_PF_holds_12 : okE R_PF 0 b_PF_holds (12, (.iload 4, 14, 0, 0, 4, 0, 0, [])) := ⟨by decide +kernel, rfl, rfl⟩
theorem e_PF_holds_14 : okE R_PF 0 b_PF_holds (14, (.iconst (-1), 15, (-1), 0, 0, 0, 0, [])) := ⟨by decide +kernel, rfl, rfl⟩
theorem e_PF_holds_15 : okE R_PF 0 b_PF_holds (15, (.if_icmp .eq 20, 18, 0, 0, 35, 0, 0, [])) := ⟨by decide +kernel, rfl, rfl⟩
theorem e_PF_holds_18 : okE R_PF 0 b_PF_holds (18, (.aload_n 0, 19, 0, 0, 0, 0, 0, [])) := ⟨by decide +kernel, rfl, rfl⟩
theorem e_PF_holds_19 : okE R_PF 0 b_PF_holds (19, (.getfield 19, 22, 0, 0, 0, 1, 2, [])) := ⟨by decide +kernel, rfl, ⟨_, _, _, rfl, by decide, wf_PF_19, rfl, rfl⟩⟩
theorem e_PF_holds_22 : okE R_PF 0 b_PF_holds (22, (.iload_n 1, 23, 0, 0, 1, 0, 0, [])) := ⟨by decide +kernel, rfl, rfl⟩
theorem e_PF_holds_23 : okE R_PF 0 b_PF_holds (23, (.iload 4, 25, 0, 0, 4, 0, 0, [])) := ⟨by decide +kernel, rfl, rfl⟩
theorem e_PF_holds_25 : okE R_PF 0 b_PF_holds (25, (.invokevirtual 132, 28, 0, 0, 1, 0, 0, [])) := ⟨by decide +kernel, rfl, trivial⟩
theorem e_PF_holds_28 : okE R_PF 0 b_PF_holds (28, (.ifCond .eq 7, 31, 0, 0, 35, 0, 0, [])) := ⟨by decide +kernel, rfl, rfl⟩
theorem e_PF_holds_31 : okE R_PF 0 b_PF_holds (31, (.iconst 1, 32, 1, 0, 0, 0, 0, [])) := ⟨by decide +kernel, rfl, rfl⟩
theorem e_PF_holds_32 : okE R_PF 0 b_PF_holds (32, (.goto 4, 35, 0, 0, 36, 0, 0, [])) := ⟨by decide +kernel, rfl, rfl⟩
theorem e_PF_holds_35 : okE R_PF 0 b_PF_holds (35, (.iconst 0, 36, 0, 0, 0, 0, 0, [])) := ⟨by decide +kernel, rfl, rfl⟩
theorem e_PF_holds_36 : okE R_PF 0 b_PF_holds (36, (.ireturn, 37, 0, 0, 0, 0, 0, [])) := ⟨by decide +kernel, rfl, trivial⟩
def k_PF_holds : List (Nat × En) := [(0, (.aload_n 0, 1, 0, 0, 0, 0, 0, [])), (1, (.getfield 19, 4, 0, 0, 0, 1, 2, [])), (4, (.iload_n 1, 5, 0, 0, 1, 0, 0, [])), (5, (.iload_n 2, 6, 0, 0, 2, 0, 0, [])), (6, (.iload_n 3, 7, 0, 0, 3, 0, 0, [])), (7, (.invokevirtual 62, 10, 0, 0, 0, 0, 0, [])), (10, (.istore 4, 12, 0, 0, 4, 0, 0, [])), (12, (.iload 4, 14, 0, 0, 4, 0, 0, [])), (14, (.iconst (-1), 15, (-1), 0, 0, 0, 0, [])), (15, (.if_icmp .eq 20, 18, 0, 0, 35, 0, 0, [])), (18, (.aload_n 0, 19, 0, 0, 0, 0, 0, [])), (19, (.getfield 19, 22, 0, 0, 0, 1, 2, [])), (22, (.iload_n 1, 23, 0, 0, 1, 0, 0, [])), (23, (.iload 4, 25, 0, 0, 4, 0, 0, [])), (25, (.invokevirtual 132, 28, 0, 0, 1, 0, 0, [])), (28, (.ifCond .eq 7, 31, 0, 0, 35, 0, 0, [])), (31, (.iconst 1, 32, 1, 0, 0, 0, 0, [])), (32, (.goto 4, 35, 0, 0, 36, 0, 0, [])), (35, (.iconst 0, 36, 0, 0, 0, 0, 0, [])), (36, (.ireturn, 37, 0, 0, 0, 0, 0, []))]
set_option maxRecDepth 100000 in
theorem ok_PF_holds : ∀ x ∈ k_PF_holds, okE R_PF 0 b_PF_holds x := fc e_PF_holds_0 (fc e_PF_holds_1 (fc e_PF_holds_4 (fc e_PF_holds_5 (fc e_PF_holds_6 (fc e_PF_holds_7 (fc e_PF_holds_10 (fc e_PF_holds_12 (fc e_PF_holds_14 (fc e_PF_holds_15 (fc e_PF_holds_18 (fc e_PF_holds_19 (fc e_PF_holds_22 (fc e_PF_holds_23 (fc e_PF_holds_25 (fc e_PF_holds_28 (fc e_PF_holds_31 (fc e_PF_holds_32 (fc e_PF_holds_35 (fc e_PF_holds_36 (fun _ h => absurd h List.not_mem_nil))))))))))))))))))))
theorem rt_PF_holds : ∀ x ∈ k_PF_holds, okR 1 x.2.1 = true := by decide +kernel
theorem e_PF_size_0 : okE R_PF 0 b_PF_size (0, (.aload_n 0, 1, 0, 0, 0, 0, 0, [])) := ⟨by decide +kernel, rfl, rfl⟩
theorem e_PF_size_1 : okE R_PF 0 b_PF_size (1, (.getfield 19, 4, 0, 0, 0, 1, 2, [])) := ⟨by decide +kernel, rfl, ⟨_, _, _, rfl, by decide, wf_PF_19, rfl, rfl⟩⟩
theorem e_PF_size_4 : okE R_PF 0 b_PF_size (4, (.iload_n 1, 5, 0, 0, 1, 0, 0, [])) := ⟨by decide +kernel, rfl, rfl⟩
theorem e_PF_size_5 : okE R_PF 0 b_PF_size (5, (.invokevirtual 81, 8, 0, 0, 0, 0, 0, [])) := ⟨by decide +kernel, rfl, trivial⟩
theorem e_PF_size_8 : okE R_PF 0 b_PF_size (8, (.ifCond .eq 18, 11, 0, 0, 26, 0, 0, [])) := ⟨by decide +kernel, rfl, rfl⟩
theorem e_PF_size_11 : okE R_PF 0 b_PF_size (11, (.aload_n 0, 12, 0, 0, 0, 0, 0, [])) := ⟨by decide +kernel, rfl, rfl⟩
theorem e_PF_size_12 : okE R_PF 0 b_PF_size (12, (.getfield 19, 15, 0, 0, 0, 1, 2, [])) := ⟨by decide +kernel, rfl, ⟨_, _, _, rfl, by decide, wf_PF_19, rfl, rfl⟩⟩
theorem e_PF_size_15 : okE R_PF 0 b_PF_size (15, (.getfield 135, 18, 0, 0, 2, 2, 2, [])) := ⟨by decide +kernel, rfl, ⟨_, _, _, rfl, by decide, wf_PF_135, rfl, rfl⟩⟩
theorem e_PF_size_18 : okE R_PF 0 b_PF_size (18, (.iload_n 1, 19, 0, 0, 1, 0, 0, [])) := ⟨by decide +kernel, rfl, rfl⟩
theorem e_PF_size_19 : okE R_PF 0 b_PF_size (19, (.laload, 20, 0, 0, 0, 0, 0, [])) := ⟨by decide +kernel, rfl, trivial⟩
theorem e_PF_size_20 : okE R_PF 0 b_PF_size (20, (.invokestatic 139, 23, 0, 0, 1, 0, 0, [])) := ⟨by decide +kernel, rfl, trivial⟩
theorem e_PF_size_23 : okE R_PF 0 b_PF_size (23, (.goto 4, 26, 0, 0, 27, 0, 0, [])) := ⟨by decide +kernel, rfl, rfl⟩
theorem e_PF_size_26 : okE R_PF 0 b_PF_size (26, (.iconst (-1), 27, (-1), 0, 0, 0, 0, [])) := ⟨by decide +kernel, rfl, rfl⟩
theorem e_PF_size_27 : okE R_PF 0 b_PF_size (27, (.ireturn, 28, 0, 0, 0, 0, 0, [])) := ⟨by decide +kernel, rfl, trivial⟩
def k_PF_size : List (Nat × En) := [(0, (.aload_n 0, 1, 0, 0, 0, 0, 0, [])), (1, (.getfield 19, 4, 0, 0, 0, 1, 2, [])), (4, (.iload_n 1, 5, 0, 0, 1, 0, 0, [])), (5, (.invokevirtual 81, 8, 0, 0, 0, 0, 0, [])), (8, (.ifCond .eq 18, 11, 0, 0, 26, 0, 0, [])), (11, (.aload_n 0, 12, 0, 0, 0, 0, 0, [])), (12, (.getfield 19, 15, 0, 0, 0, 1, 2, [])), (15, (.getfield 135, 18, 0, 0, 2, 2, 2, [])), (18, (.iload_n 1, 19, 0, 0, 1, 0, 0, [])), (19, (.laload, 20, 0, 0, 0, 0, 0, [])), (20, (.invokestatic 139, 23, 0, 0, 1, 0, 0, [])), (23, (.goto 4, 26, 0, 0, 27, 0, 0, [])), (26, (.iconst (-1), 27, (-1), 0, 0, 0, 0, [])), (27, (.ireturn, 28, 0, 0, 0, 0, 0, []))]
set_option maxRecDepth 100000 in
theorem ok_PF_size : ∀ x ∈ k_PF_size, okE R_PF 0 b_PF_size x := fc e_PF_size_0 (fc e_PF_size_1 (fc e_PF_size_4 (fc e_PF_size_5 (fc e_PF_size_8 (fc e_PF_size_11 (fc e_PF_size_12 (fc e_PF_size_15 (fc e_PF_size_18 (fc e_PF_size_19 (fc e_PF_size_20 (fc e_PF_size_23 (fc e_PF_size_26 (fc e_PF_size_27 (fun _ h => absurd h List.not_mem_nil))))))))))))))
theorem rt_PF_size : ∀ x ∈ k_PF_size, okR 0 x.2.1 = true := by decide +kernel
theorem e_PF_tuple_0 : okE R_PF 0 b_PF_tuple (0, (.aload_n 0, 1, 0, 0, 0, 0, 0, [])) := ⟨by decide +kernel, rfl, rfl⟩
theorem e_PF_tuple_1 : okE R_PF 0 b_PF_tuple (1, (.getfield 19, 4, 0, 0, 0, 1, 2, [])) := ⟨by decide +kernel, rfl, ⟨_, _, _, rfl, by decide, wf_PF_19, rfl, rfl⟩⟩
theorem e_PF_tuple_4 : okE R_PF 0 b_PF_tuple (4, (.iload_n 1, 5, 0, 0, 1, 0, 0, [])) := ⟨by decide +kernel, rfl, rfl⟩
theorem e_PF_tuple_5 : okE R_PF 0 b_PF_tuple (5, (.invokevirtual 81, 8, 0, 0, 0, 0, 0, [])) := ⟨by decide +kernel, rfl, trivial⟩
theorem e_PF_tuple_8 : okE R_PF 0 b_PF_tuple (8, (.ifCond .eq 19, 11, 0, 0, 27, 0, 0, [])) := ⟨by decide +kernel, rfl, rfl⟩
theorem e_PF_tuple_11 : okE R_PF 0 b_PF_tuple (11, (.iload_n 2, 12, 0, 0, 2, 0, 0, [])) := ⟨by decide +kernel, rfl, rfl⟩
theorem e_PF_tuple_12 : okE R_PF 0 b_PF_tuple (12, (.ifCond .lt 15, 15, 0, 0, 27, 0, 0, [])) := ⟨by decide +kernel, rfl, rfl⟩
theorem e_PF_tuple_15 : okE R_PF 0 b_PF_tuple (15, (.aload_n 0, 16, 0, 0, 0, 0, 0, [])) := ⟨by decide +kernel, rfl, rfl⟩
theorem e_PF_tuple_16 : okE R_PF 0 b_PF_tuple (16, (.getfield 19, 19, 0, 0, 0, 1, 2, [])) := ⟨by decide +kernel, rfl, ⟨_, _, _, rfl, by decide, wf_PF_19, rfl, rfl⟩⟩
theorem e_PF_tuple_19 : okE R_PF 0 b_PF_tuple (19, (.iload_n 1, 20, 0, 0, 1, 0, 0, [])) := ⟨by decide +kernel, rfl, rfl⟩
theorem e_PF_tuple_20 : okE R_PF 0 b_PF_tuple (20, (.iload_n 2, 21, 0, 0, 2, 0, 0, [])) := ⟨by decide +kernel, rfl, rfl⟩
theorem e_PF_tuple_21 : okE R_PF 0 b_PF_tuple (21, (.invokevirtual 145, 24, 0, 0, 1, 0, 0, [])) := ⟨by decide +kernel, rfl, trivial⟩
theorem e_PF_tuple_24 : okE R_PF 0 b_PF_tuple (24, (.goto 4, 27, 0, 0, 28, 0, 0, [])) := ⟨by decide +kernel, rfl, rfl⟩
theorem e_PF_tuple_27 : okE R_PF 0 b_PF_tuple (27, (.iconst (-1), 28, (-1), 0, 0, 0, 0, [])) := ⟨by decide +kernel, rfl, rfl⟩
theorem e_PF_tuple_28 : okE R_PF 0 b_PF_tuple (28, (.istore_n 3, 29, 0, 0, 3, 0, 0, [])) := ⟨by decide +kernel, rfl, rfl⟩
theorem e_PF_tuple_29 : okE R_PF 0 b_PF_tuple (29, (.iload_n 3, 30, 0, 0, 3, 0, 0, [])) := ⟨by decide +kernel, rfl, rfl⟩
theorem e_PF_tuple_30 : okE R_PF 0 b_PF_tuple (30, (.iconst (-1), 31, (-1), 0, 0, 0, 0, [])) := ⟨by decide +kernel, rfl, rfl⟩
theorem e_PF_tuple_31 : okE R_PF 0 b_PF_tuple (31, (.if_icmp .ne 5, 34, 0, 0, 36, 0, 0, [])) := ⟨by decide +kernel, rfl, rfl⟩
theorem e_PF_tuple_34 : okE R_PF 0 b_PF_tuple (34, (.iconst (-1), 35, (-1), 0, 0, 0, 0, [])) := ⟨by decide +kernel, rfl, rfl⟩
theorem e_PF_tuple_35 : okE R_PF 0 b_PF_tuple (35, (.ireturn, 36, 0, 0, 0, 0, 0, [])) := ⟨by decide +kernel, rfl, trivial⟩
theorem e_PF_tuple_36 : okE R_PF 0 b_PF_tuple (36, (.iload_n 3, 37, 0, 0, 3, 0, 0, [])) := ⟨by decide +kernel, rfl, rfl⟩
theorem e_PF_tuple_37 : okE R_PF 0 b_PF_tuple (37, (.bipush 6, 39, 6, 0, 0, 0, 0, [])) := ⟨by decide +kernel, rfl, rfl⟩
theorem e_PF_tuple_39 : okE R_PF 0 b_PF_tuple (39, (.idiv, 40, 0, 0, 0, 0, 0, [])) := ⟨by decide +kernel, rfl, trivial⟩
theorem e_PF_tuple_40 : okE R_PF 0 b_PF_tuple (40, (.istore 4, 42, 0, 0, 4, 0, 0, [])) := ⟨by decide +kernel, rfl, rfl⟩
theorem e_PF_tuple_42 : okE R_PF 0 b_PF_tuple (42, (.aload_n 0, 43, 0, 0, 0, 0, 0, [])) := ⟨by decide +kernel, rfl, rfl⟩
theorem e_PF_tuple_43 : okE R_PF 0 b_PF_tuple (43, (.getfield 19, 46, 0, 0, 0, 1, 2, [])) := ⟨by decide +kernel, rfl, ⟨_, _, _, rfl, by decide, wf_PF_19, rfl, rfl⟩⟩
theorem e_PF_tuple_46 : okE R_PF 0 b_PF_tuple (46, (.getfield 148, 49, 0, 0, 2, 0, 2, [])) := ⟨by decide +kernel, rfl, ⟨_, _, _, rfl, by decide, wf_PF_148, rfl, rfl⟩⟩
theorem e_PF_tuple_49 : okE R_PF 0 b_PF_tuple (49, (.iload_n 1, 50, 0, 0, 1, 0, 0, [])) := ⟨by decide +kernel, rfl, rfl⟩
theorem e_PF_tuple_50 : okE R_PF 0 b_PF_tuple (50, (.iaload, 51, 0, 0, 0, 0, 0, [])) := ⟨by decide +kernel, rfl, trivial⟩
theorem e_PF_tuple_51 : okE R_PF 0 b_PF_tuple (51, (.iconst 1, 52, 1, 0, 0, 0, 0, [])) := ⟨by decide +kernel, rfl, rfl⟩
theorem e_PF_tuple_52 : okE R_PF 0 b_PF_tuple (52, (.if_icmp .ne 8, 55, 0, 0, 60, 0, 0, [])) := ⟨by decide +kernel, rfl, rfl⟩
theorem e_PF_tuple_55 : okE R_PF 0 b_PF_tuple (55, (.iload 4, 57, 0, 0, 4, 0, 0, [])) := ⟨by decide +kernel, rfl, rfl⟩
theorem e_PF_tuple_57 : okE R_PF 0 b_PF_tuple (57, (.goto 13, 60, 0, 0, 70, 0, 0, [])) := ⟨by decide +kernel, rfl, rfl⟩
theorem e_PF_tuple_60 : okE R_PF 0 b_PF_tuple (60, (.bipush 10, 62, 10, 0, 0, 0, 0, [])) := ⟨by decide +kernel, rfl, rfl⟩
theorem e_PF_tuple_62 : okE R_PF 0 b_PF_tuple (62, (.iload 4, 64, 0, 0, 4, 0, 0, [])) := ⟨by decide +kernel, rfl, rfl⟩
theorem e_PF_tuple_64 : okE R_PF 0 b_PF_tuple (64, (.imul, 65, 0, 0, 0, 0, 0, [])) := ⟨by decide +kernel, rfl, trivial⟩
theorem e_PF_tuple_65 : okE R_PF 0 b_PF_tuple (65, (.iload_n 3, 66, 0, 0, 3, 0, 0, [])) := ⟨by decide +kernel, rfl, rfl⟩
theorem e_PF_tuple_66 : okE R_PF 0 b_PF_tuple (66, (.bipush 6, 68, 6, 0, 0, 0, 0, [])) := ⟨by decide +kernel, rfl, rfl⟩
theorem e_PF_tuple_68 : okE R_PF 0 b_PF_tuple (68, (.irem, 69, 0, 0, 0, 0, 0, [])) := ⟨by decide +kernel, rfl, trivial⟩
theorem e_PF_tuple_69 : okE R_PF 0 b_PF_tuple (69, (.iadd, 70, 0, 0, 0, 0, 0, [])) := ⟨by decide +kernel, rfl, trivial⟩
theorem e_PF_tuple_70 : okE R_PF 0 b_PF_tuple (70, (.ireturn, 71, 0, 0, 0, 0, 0, [])) := ⟨by decide +kernel, rfl, trivial⟩
def k_PF_tuple : List (Nat × En) := [(0, (.aload_n 0, 1, 0, 0, 0, 0, 0, [])), (1, (.getfield 19, 4, 0, 0, 0, 1, 2, [])), (4, (.iload_n 1, 5, 0, 0, 1, 0, 0, [])), (5, (.invokevirtual 81, 8, 0, 0, 0, 0, 0, [])), (8, (.ifCond .eq 19, 11, 0, 0, 27, 0, 0, [])), (11, (.iload_n 2, 12, 0, 0, 2, 0, 0, [])), (12, (.ifCond .lt 15, 15, 0, 0, 27, 0, 0, [])), (15, (.aload_n 0, 16, 0, 0, 0, 0, 0, [])), (16, (.getfield 19, 19, 0, 0, 0, 1, 2, [])), (19, (.iload_n 1, 20, 0, 0, 1, 0, 0, [])), (20, (.iload_n 2, 21, 0, 0, 2, 0, 0, [])), (21, (.invokevirtual 145, 24, 0, 0, 1, 0, 0, [])), (24, (.goto 4, 27, 0, 0, 28, 0, 0, [])), (27, (.iconst (-1), 28, (-1), 0, 0, 0, 0, [])), (28, (.istore_n 3, 29, 0, 0, 3, 0, 0, [])), (29, (.iload_n 3, 30, 0, 0, 3, 0, 0, [])), (30, (.iconst (-1), 31, (-1), 0, 0, 0, 0, [])), (31, (.if_icmp .ne 5, 34, 0, 0, 36, 0, 0, [])), (34, (.iconst (-1), 35, (-1), 0, 0, 0, 0, [])), (35, (.ireturn, 36, 0, 0, 0, 0, 0, [])), (36, (.iload_n 3, 37, 0, 0, 3, 0, 0, [])), (37, (.bipush 6, 39, 6, 0, 0, 0, 0, [])), (39, (.idiv, 40, 0, 0, 0, 0, 0, [])), (40, (.istore 4, 42, 0, 0, 4, 0, 0, [])), (42, (.aload_n 0, 43, 0, 0, 0, 0, 0, [])), (43, (.getfield 19, 46, 0, 0, 0, 1, 2, [])), (46, (.getfield 148, 49, 0, 0, 2, 0, 2, [])), (49, (.iload_n 1, 50, 0, 0, 1, 0, 0, [])), (50, (.iaload, 51, 0, 0, 0, 0, 0, [])), (51, (.iconst 1, 52, 1, 0, 0, 0, 0, [])), (52, (.if_icmp .ne 8, 55, 0, 0, 60, 0, 0, [])), (55, (.iload 4, 57, 0, 0, 4, 0, 0, [])), (57, (.goto 13, 60, 0, 0, 70, 0, 0, [])), (60, (.bipush 10, 62, 10, 0, 0, 0, 0, [])), (62, (.iload 4, 64, 0, 0, 4, 0, 0, [])), (64, (.imul, 65, 0, 0, 0, 0, 0, [])), (65, (.iload_n 3, 66, 0, 0, 3, 0, 0, [])), (66, (.bipush 6, 68, 6, 0, 0, 0, 0, [])), (68, (.irem, 69, 0, 0, 0, 0, 0, [])), (69, (.iadd, 70, 0, 0, 0, 0, 0, [])), (70, (.ireturn, 71, 0, 0, 0, 0, 0, []))]
set_option maxRecDepth 100000 in
theorem ok_PF_tuple : ∀ x ∈ k_PF_tuple, okE R_PF 0 b_PF_tuple x := fc e_PF_tuple_0 (fc e_PF_tuple_1 (fc e_PF_tuple_4 (fc e_PF_tuple_5 (fc e_PF_tuple_8 (fc e_PF_tuple_11 (fc e_PF_tuple_12 (fc e_PF_tuple_15 (fc e_PF_tuple_16 (fc e_PF_tuple_19 (fc e_PF_tuple_20 (fc e_PF_tuple_21 (fc e_PF_tuple_24 (fc e_PF_tuple_27 (fc e_PF_tuple_28 (fc e_PF_tuple_29 (fc e_PF_tuple_30 (fc e_PF_tuple_31 (fc e_PF_tuple_34 (fc e_PF_tuple_35 (fc e_PF_tuple_36 (fc e_PF_tuple_37 (fc e_PF_tuple_39 (fc e_PF_tuple_40 (fc e_PF_tuple_42 (fc e_PF_tuple_43 (fc e_PF_tuple_46 (fc e_PF_tuple_49 (fc e_PF_tuple_50 (fc e_PF_tuple_51 (fc e_PF_tuple_52 (fc e_PF_tuple_55 (fc e_PF_tuple_57 (fc e_PF_tuple_60 (fc e_PF_tuple_62 (fc e_PF_tuple_64 (fc e_PF_tuple_65 (fc e_PF_tuple_66 (fc e_PF_tuple_68 (fc e_PF_tuple_69 (fc e_PF_tuple_70 (fun _ h => absurd h List.not_mem_nil)))))))))))))))))))))))))))))))))))))))))
theorem rt_PF_tuple : ∀ x ∈ k_PF_tuple, okR 0 x.2.1 = true := by decide +kernel
theorem e_PF_ways_0 : okE R_PF 0 b_PF_ways (0, (.aload_n 0, 1, 0, 0, 0, 0, 0, [])) := ⟨by decide +kernel, rfl, rfl⟩
theorem e_PF_ways_1 : okE R_PF 0 b_PF_ways (1, (.getfield 19, 4, 0, 0, 0, 1, 2, [])) := ⟨by decide +kernel, rfl, ⟨_, _, _, rfl, by decide, wf_PF_19, rfl, rfl⟩⟩
theorem e_PF_ways_4 : okE R_PF 0 b_PF_ways (4, (.iload_n 1, 5, 0, 0, 1, 0, 0, [])) := ⟨by decide +kernel, rfl, rfl⟩
theorem e_PF_ways_5 : okE R_PF 0 b_PF_ways (5, (.iload_n 2, 6, 0, 0, 2, 0, 0, [])) := ⟨by decide +kernel, rfl, rfl⟩
theorem e_PF_ways_6 : okE R_PF 0 b_PF_ways (6, (.iload_n 3, 7, 0, 0, 3, 0, 0, [])) := ⟨by decide +kernel, rfl, rfl⟩
theorem e_PF_ways_7 : okE R_PF 0 b_PF_ways (7, (.invokevirtual 62, 10, 0, 0, 0, 0, 0, [])) := ⟨by decide +kernel, rfl, trivial⟩
theorem e_PF_ways_10 : okE R_PF 0 b_PF_ways (10, (.istore 4, 12, 0, 0, 4, 0, 0, [])) := ⟨by decide +kernel, rfl, rfl⟩
theorem e_PF_ways_12 : okE R_PF 0 b_PF_ways (12, (.iload 4, 14, 0, 0, 4, 0, 0, [])) := ⟨by decide +kernel, rfl, rfl⟩
theorem e_PF_ways_14 : okE R_PF 0 b_PF_ways (14, (.iconst (-1), 15, (-1), 0, 0, 0, 0, [])) := ⟨by decide +kernel, rfl, rfl⟩
theorem e_PF_ways_15 : okE R_PF 0 b_PF_ways (15, (.if_icmp .ne 5, 18, 0, 0, 20, 0, 0, [])) := ⟨by decide +kernel, rfl, rfl⟩
theorem e_PF_ways_18 : okE R_PF 0 b_PF_ways (18, (.iconst (-1), 19, (-1), 0, 0, 0, 0, [])) := ⟨by decide +kernel, rfl, rfl⟩
theorem e_PF_ways_19 : okE R_PF 0 b_PF_ways (19, (.ireturn, 20, 0, 0, 0, 0, 0, [])) := ⟨by decide +kernel, rfl, trivial⟩
theorem e_PF_ways_20 : okE R_PF 0 b_PF_ways (20, (.aload_n 0, 21, 0, 0, 0, 0, 0, [])) := ⟨by decide +kernel, rfl, rfl⟩
theorem e_PF_ways_21 : okE R_PF 0 b_PF_ways (21, (.getfield 19, 24, 0, 0, 0, 1, 2, [])) := ⟨by decide +kernel, rfl, ⟨_, _, _, rfl, by decide, wf_PF_19, rfl, rfl⟩⟩
theorem e_PF_ways_24 : okE R_PF 0 b_PF_ways (24, (.iload_n 1, 25, 0, 0, 1, 0, 0, [])) := ⟨by decide +kernel, rfl, rfl⟩
theorem e_PF_ways_25 : okE R_PF 0 b_PF_ways (25, (.iload 4, 27, 0, 0, 4, 0, 0, [])) := ⟨by decide +kernel, rfl, rfl⟩
theorem e_PF_ways_27 : okE R_PF 0 b_PF_ways (27, (.invokevirtual 66, 30, 0, 0, 1, 0, 0, [])) := ⟨by decide +kernel, rfl, trivial⟩
theorem e_PF_ways_30 : okE R_PF 0 b_PF_ways (30, (.ifCond .eq 7, 33, 0, 0, 37, 0, 0, [])) := ⟨by decide +kernel, rfl, rfl⟩
theorem e_PF_ways_33 : okE R_PF 0 b_PF_ways (33, (.iconst 1, 34, 1, 0, 0, 0, 0, [])) := ⟨by decide +kernel, rfl, rfl⟩
theorem e_PF_ways_34 : okE R_PF 0 b_PF_ways (34, (.goto 4, 37, 0, 0, 38, 0, 0, [])) := ⟨by decide +kernel, rfl, rfl⟩
theorem e_PF_ways_37 : okE R_PF 0 b_PF_ways (37, (.iconst 0, 38, 0, 0, 0, 0, 0, [])) := ⟨by decide +kernel, rfl, rfl⟩
theorem e_PF_ways_38 : okE R_PF 0 b_PF_ways (38, (.istore 5, 40, 0, 0, 5, 0, 0, [])) := ⟨by decide +kernel, rfl, rfl⟩
theorem e_PF_ways_40 : okE R_PF 0 b_PF_ways (40, (.iconst 0, 41, 0, 0, 0, 0, 0, [])) := ⟨by decide +kernel, rfl, rfl⟩
theorem e_PF_ways_41 : okE R_PF 0 b_PF_ways (41, (.istore 6, 43, 0, 0, 6, 0, 0, [])) := ⟨by decide +kernel, rfl, rfl⟩
theorem e_PF_ways_43 : okE R_PF 0 b_PF_ways (43, (.iload 6, 45, 0, 0, 6, 0, 0, [])) := ⟨by decide +kernel, rfl, rfl⟩
theorem e_PF_ways_45 : okE R_PF 0 b_PF_ways (45, (.bipush 14, 47, 14, 0, 0, 0, 0, [])) := ⟨by decide +kernel, rfl, rfl⟩
theorem e_PF_ways_47 : okE R_PF 0 b_PF_ways (47, (.if_icmp .ge 61, 50, 0, 0, 108, 0, 0, [])) := ⟨by decide +kernel, rfl, rfl⟩
theorem e_PF_ways_50 : okE R_PF 0 b_PF_ways (50, (.aload_n 0, 51, 0, 0, 0, 0, 0, [])) := ⟨by decide +kernel, rfl, rfl⟩
theorem e_PF_ways_51 : okE R_PF 0 b_PF_ways (51, (.getfield 26, 54, 0, 0, 0, 2, 2, [])) := ⟨by decide +kernel, rfl, ⟨_, _, _, rfl, by decide, wf_PF_26, rfl, rfl⟩⟩
theorem e_PF_ways_54 : okE R_PF 0 b_PF_ways (54, (.getfield 152, 57, 0, 0, 3, 0, 2, [])) := ⟨by decide +kernel, rfl, ⟨_, _, _, rfl, by decide, wf_PF_152, rfl, rfl⟩⟩
theorem e_PF_ways_57 : okE R_PF 0 b_PF_ways (57, (.iload 6, 59, 0, 0, 6, 0, 0, [])) := ⟨by decide +kernel, rfl, rfl⟩
theorem e_PF_ways_59 : okE R_PF 0 b_PF_ways (59, (.aaload, 60, 0, 0, 0, 0, 0, [])) := ⟨by decide +kernel, rfl, trivial⟩
theorem e_PF_ways_60 : okE R_PF 0 b_PF_ways (60, (.astore 7, 62, 0, 0, 7, 0, 0, [])) := ⟨by decide +kernel, rfl, rfl⟩
theorem e_PF_ways_62 : okE R_PF 0 b_PF_ways (62, (.aload 7, 64, 0, 0, 7, 0, 0, [])) := ⟨by decide +kernel, rfl, rfl⟩
theorem e_PF_ways_64 : okE R_PF 0 b_PF_ways (64, (.getfield 156, 67, 0, 0, 4, 4, 3, [])) := ⟨by decide +kernel, rfl, ⟨_, _, _, rfl, by decide, wf_PF_156, rfl, rfl⟩⟩
theorem e_PF_ways_67 : okE R_PF 0 b_PF_ways (67, (.ifCond .eq 35, 70, 0, 0, 102, 0, 0, [])) := ⟨by decide +kernel, rfl, rfl⟩
theorem e_PF_ways_70 : okE R_PF 0 b_PF_ways (70, (.aload 7, 72, 0, 0, 7, 0, 0, [])) := ⟨by decide +kernel, rfl, rfl⟩
theorem e_PF_ways_72 : okE R_PF 0 b_PF_ways (72, (.getfield 162, 75, 0, 0, 4, 0, 2, [])) := ⟨by decide +kernel, rfl, ⟨_, _, _, rfl, by decide, wf_PF_162, rfl, rfl⟩⟩
theorem e_PF_ways_75 : okE R_PF 0 b_PF_ways (75, (.getfield 166, 78, 0, 0, 5, 0, 0, [])) := ⟨by decide +kernel, rfl, ⟨_, _, _, rfl, by decide, wf_PF_166, rfl, rfl⟩⟩
theorem e_PF_ways_78 : okE R_PF 0 b_PF_ways (78, (.iload_n 1, 79, 0, 0, 1, 0, 0, [])) := ⟨by decide +kernel, rfl, rfl⟩
theorem e_PF_ways_79 : okE R_PF 0 b_PF_ways (79, (.if_icmp .ne 23, 82, 0, 0, 102, 0, 0, [])) := ⟨by decide +kernel, rfl, rfl⟩
theorem e_PF_ways_82 : okE R_PF 0 b_PF_ways (82, (.iload 5, 84, 0, 0, 5, 0, 0, [])) := ⟨by decide +kernel, rfl, rfl⟩
theorem e_PF_ways_84 : okE R_PF 0 b_PF_ways (84, (.aload_n 0, 85, 0, 0, 0, 0, 0, [])) := ⟨by decide +kernel, rfl, rfl⟩
theorem e_PF_ways_85 : okE R_PF 0 b_PF_ways (85, (.getfield 36, 88, 0, 0, 0, 3, 2, [])) := ⟨by decide +kernel, rfl, ⟨_, _, _, rfl, by decide, wf_PF_36, rfl, rfl⟩⟩
theorem e_PF_ways_88 : okE R_PF 0 b_PF_ways (88, (.aload_n 0, 89, 0, 0, 0, 0, 0, [])) := ⟨by decide +kernel, rfl, rfl⟩
theorem e_PF_ways_89 : okE R_PF 0 b_PF_ways (89, (.getfield 19, 92, 0, 0, 0, 1, 2, [])) := ⟨by decide +kernel, rfl, ⟨_, _, _, rfl, by decide, wf_PF_19, rfl, rfl⟩⟩
theorem e_PF_ways_92 : okE R_PF 0 b_PF_ways (92, (.aload 7, 94, 0, 0, 7, 0, 0, [])) := ⟨by decide +kernel, rfl, rfl⟩
theorem e_PF_ways_94 : okE R_PF 0 b_PF_ways (94, (.iload 4, 96, 0, 0, 4, 0, 0, [])) := ⟨by decide +kernel, rfl, rfl⟩
theorem e_PF_ways_96 : okE R_PF 0 b_PF_ways (96, (.invokevirtual 171, 99, 0, 0, 2, 0, 0, [])) := ⟨by decide +kernel, rfl, trivial⟩
theorem e_PF_ways_99 : okE R_PF 0 b_PF_ways (99, (.iadd, 100, 0, 0, 0, 0, 0, [])) := ⟨by decide +kernel, rfl, trivial⟩
theorem e_PF_ways_100 : okE R_PF 0 b_PF_ways (100, (.istore 5, 102, 0, 0, 5, 0, 0, [])) := ⟨by decide +kernel, rfl, rfl⟩
theorem e_PF_ways_102 : okE R_PF 0 b_PF_ways (102, (.iinc 6 1, 105, 1, 0, 6, 0, 0, [])) := ⟨by decide +kernel, rfl, ⟨rfl, rfl⟩⟩
theorem e_PF_ways_105 : okE R_PF 0 b_PF_ways (105, (.goto (-62), 108, 0, 0, 43, 0, 0, [])) := ⟨by decide +kernel, rfl, rfl⟩
theorem e_PF_ways_108 : okE R_PF 0 b_PF_ways (108, (.iload 5, 110, 0, 0, 5, 0, 0, [])) := ⟨by decide +kernel, rfl, rfl⟩
theorem e_PF_ways_110 : okE R_PF 0 b_PF_ways (110, (.ireturn, 111, 0, 0, 0, 0, 0, [])) := ⟨by decide +kernel, rfl, trivial⟩
def k_PF_ways : List (Nat × En) := [(0, (.aload_n 0, 1, 0, 0, 0, 0, 0, [])), (1, (.getfield 19, 4, 0, 0, 0, 1, 2, [])), (4, (.iload_n 1, 5, 0, 0, 1, 0, 0, [])), (5, (.iload_n 2, 6, 0, 0, 2, 0, 0, [])), (6, (.iload_n 3, 7, 0, 0, 3, 0, 0, [])), (7, (.invokevirtual 62, 10, 0, 0, 0, 0, 0, [])), (10, (.istore 4, 12, 0, 0, 4, 0, 0, [])), (12, (.iload 4, 14, 0, 0, 4, 0, 0, [])), (14, (.iconst (-1), 15, (-1), 0, 0, 0, 0, [])), (15, (.if_icmp .ne 5, 18, 0, 0, 20, 0, 0, [])), (18, (.iconst (-1), 19, (-1), 0, 0, 0, 0, [])), (19, (.ireturn, 20, 0, 0, 0, 0, 0, [])), (20, (.aload_n 0, 21, 0, 0, 0, 0, 0, [])), (21, (.getfield 19, 24, 0, 0, 0, 1, 2, [])), (24, (.iload_n 1, 25, 0, 0, 1, 0, 0, [])), (25, (.iload 4, 27, 0, 0, 4, 0, 0, [])), (27, (.invokevirtual 66, 30, 0, 0, 1, 0, 0, [])), (30, (.ifCond .eq 7, 33, 0, 0, 37, 0, 0, [])), (33, (.iconst 1, 34, 1, 0, 0, 0, 0, [])), (34, (.goto 4, 37, 0, 0, 38, 0, 0, [])), (37, (.iconst 0, 38, 0, 0, 0, 0, 0, [])), (38, (.istore 5, 40, 0, 0, 5, 0, 0, [])), (40, (.iconst 0, 41, 0, 0, 0, 0, 0, [])), (41, (.istore 6, 43, 0, 0, 6, 0, 0, [])), (43, (.iload 6, 45, 0, 0, 6, 0, 0, [])), (45, (.bipush 14, 47, 14, 0, 0, 0, 0, [])), (47, (.if_icmp .ge 61, 50, 0, 0, 108, 0, 0, [])), (50, (.aload_n 0, 51, 0, 0, 0, 0, 0, [])), (51, (.getfield 26, 54, 0, 0, 0, 2, 2, [])), (54, (.getfield 152, 57, 0, 0, 3, 0, 2, [])), (57, (.iload 6, 59, 0, 0, 6, 0, 0, [])), (59, (.aaload, 60, 0, 0, 0, 0, 0, [])), (60, (.astore 7, 62, 0, 0, 7, 0, 0, [])), (62, (.aload 7, 64, 0, 0, 7, 0, 0, [])), (64, (.getfield 156, 67, 0, 0, 4, 4, 3, [])), (67, (.ifCond .eq 35, 70, 0, 0, 102, 0, 0, [])), (70, (.aload 7, 72, 0, 0, 7, 0, 0, [])), (72, (.getfield 162, 75, 0, 0, 4, 0, 2, [])), (75, (.getfield 166, 78, 0, 0, 5, 0, 0, [])), (78, (.iload_n 1, 79, 0, 0, 1, 0, 0, [])), (79, (.if_icmp .ne 23, 82, 0, 0, 102, 0, 0, [])), (82, (.iload 5, 84, 0, 0, 5, 0, 0, [])), (84, (.aload_n 0, 85, 0, 0, 0, 0, 0, [])), (85, (.getfield 36, 88, 0, 0, 0, 3, 2, [])), (88, (.aload_n 0, 89, 0, 0, 0, 0, 0, [])), (89, (.getfield 19, 92, 0, 0, 0, 1, 2, [])), (92, (.aload 7, 94, 0, 0, 7, 0, 0, [])), (94, (.iload 4, 96, 0, 0, 4, 0, 0, [])), (96, (.invokevirtual 171, 99, 0, 0, 2, 0, 0, [])), (99, (.iadd, 100, 0, 0, 0, 0, 0, [])), (100, (.istore 5, 102, 0, 0, 5, 0, 0, [])), (102, (.iinc 6 1, 105, 1, 0, 6, 0, 0, [])), (105, (.goto (-62), 108, 0, 0, 43, 0, 0, [])), (108, (.iload 5, 110, 0, 0, 5, 0, 0, [])), (110, (.ireturn, 111, 0, 0, 0, 0, 0, []))]
set_option maxRecDepth 100000 in
theorem ok_PF_ways : ∀ x ∈ k_PF_ways, okE R_PF 0 b_PF_ways x := fc e_PF_ways_0 (fc e_PF_ways_1 (fc e_PF_ways_4 (fc e_PF_ways_5 (fc e_PF_ways_6 (fc e_PF_ways_7 (fc e_PF_ways_10 (fc e_PF_ways_12 (fc e_PF_ways_14 (fc e_PF_ways_15 (fc e_PF_ways_18 (fc e_PF_ways_19 (fc e_PF_ways_20 (fc e_PF_ways_21 (fc e_PF_ways_24 (fc e_PF_ways_25 (fc e_PF_ways_27 (fc e_PF_ways_30 (fc e_PF_ways_33 (fc e_PF_ways_34 (fc e_PF_ways_37 (fc e_PF_ways_38 (fc e_PF_ways_40 (fc e_PF_ways_41 (fc e_PF_ways_43 (fc e_PF_ways_45 (fc e_PF_ways_47 (fc e_PF_ways_50 (fc e_PF_ways_51 (fc e_PF_ways_54 (fc e_PF_ways_57 (fc e_PF_ways_59 (fc e_PF_ways_60 (fc e_PF_ways_62 (fc e_PF_ways_64 (fc e_PF_ways_67 (fc e_PF_ways_70 (fc e_PF_ways_72 (fc e_PF_ways_75 (fc e_PF_ways_78 (fc e_PF_ways_79 (fc e_PF_ways_82 (fc e_PF_ways_84 (fc e_PF_ways_85 (fc e_PF_ways_88 (fc e_PF_ways_89 (fc e_PF_ways_92 (fc e_PF_ways_94 (fc e_PF_ways_96 (fc e_PF_ways_99 (fc e_PF_ways_100 (fc e_PF_ways_102 (fc e_PF_ways_105 (fc e_PF_ways_108 (fc e_PF_ways_110 (fun _ h => absurd h List.not_mem_nil)))))))))))))))))))))))))))))))))))))))))))))))))))))))
theorem rt_PF_ways : ∀ x ∈ k_PF_ways, okR 0 x.2.1 = true := by decide +kernel
theorem e_PF_stratum_0 : okE R_PF 0 b_PF_stratum (0, (.aload_n 0, 1, 0, 0, 0, 0, 0, [])) := ⟨by decide +kernel, rfl, rfl⟩
theorem e_PF_stratum_1 : okE R_PF 0 b_PF_stratum (1, (.getfield 19, 4, 0, 0, 0, 1, 2, [])) := ⟨by decide +kernel, rfl, ⟨_, _, _, rfl, by decide, wf_PF_19, rfl, rfl⟩⟩
theorem e_PF_stratum_4 : okE R_PF 0 b_PF_stratum (4, (.iload_n 1, 5, 0, 0, 1, 0, 0, [])) := ⟨by decide +kernel, rfl, rfl⟩
theorem e_PF_stratum_5 : okE R_PF 0 b_PF_stratum (5, (.invokevirtual 81, 8, 0, 0, 0, 0, 0, [])) := ⟨by decide +kernel, rfl, trivial⟩
theorem e_PF_stratum_8 : okE R_PF 0 b_PF_stratum (8, (.ifCond .eq 15, 11, 0, 0, 23, 0, 0, [])) := ⟨by decide +kernel, rfl, rfl⟩
theorem e_PF_stratum_11 : okE R_PF 0 b_PF_stratum (11, (.aload_n 0, 12, 0, 0, 0, 0, 0, [])) := ⟨by decide +kernel, rfl, rfl⟩
theorem e_PF_stratum_12 : okE R_PF 0 b_PF_stratum (12, (.getfield 26, 15, 0, 0, 0, 2, 2, [])) := ⟨by decide +kernel, rfl, ⟨_, _, _, rfl, by decide, wf_PF_26, rfl, rfl⟩⟩
theorem e_PF_stratum_15 : okE R_PF 0 b_PF_stratum (15, (.getfield 175, 18, 0, 0, 3, 1, 2, [])) := ⟨by decide +kernel, rfl, ⟨_, _, _, rfl, by decide, wf_PF_175, rfl, rfl⟩⟩
theorem e_PF_stratum_18 : okE R_PF 0 b_PF_stratum (18, (.iload_n 1, 19, 0, 0, 1, 0, 0, [])) := ⟨by decide +kernel, rfl, rfl⟩
theorem e_PF_stratum_19 : okE R_PF 0 b_PF_stratum (19, (.iaload, 20, 0, 0, 0, 0, 0, [])) := ⟨by decide +kernel, rfl, trivial⟩
theorem e_PF_stratum_20 : okE R_PF 0 b_PF_stratum (20, (.goto 4, 23, 0, 0, 24, 0, 0, [])) := ⟨by decide +kernel, rfl, rfl⟩
theorem e_PF_stratum_23 : okE R_PF 0 b_PF_stratum (23, (.iconst (-1), 24, (-1), 0, 0, 0, 0, [])) := ⟨by decide +kernel, rfl, rfl⟩
theorem e_PF_stratum_24 : okE R_PF 0 b_PF_stratum (24, (.ireturn, 25, 0, 0, 0, 0, 0, [])) := ⟨by decide +kernel, rfl, trivial⟩
def k_PF_stratum : List (Nat × En) := [(0, (.aload_n 0, 1, 0, 0, 0, 0, 0, [])), (1, (.getfield 19, 4, 0, 0, 0, 1, 2, [])), (4, (.iload_n 1, 5, 0, 0, 1, 0, 0, [])), (5, (.invokevirtual 81, 8, 0, 0, 0, 0, 0, [])), (8, (.ifCond .eq 15, 11, 0, 0, 23, 0, 0, [])), (11, (.aload_n 0, 12, 0, 0, 0, 0, 0, [])), (12, (.getfield 26, 15, 0, 0, 0, 2, 2, [])), (15, (.getfield 175, 18, 0, 0, 3, 1, 2, [])), (18, (.iload_n 1, 19, 0, 0, 1, 0, 0, [])), (19, (.iaload, 20, 0, 0, 0, 0, 0, [])), (20, (.goto 4, 23, 0, 0, 24, 0, 0, [])), (23, (.iconst (-1), 24, (-1), 0, 0, 0, 0, [])), (24, (.ireturn, 25, 0, 0, 0, 0, 0, []))]
set_option maxRecDepth 100000 in
theorem ok_PF_stratum : ∀ x ∈ k_PF_stratum, okE R_PF 0 b_PF_stratum x := fc e_PF_stratum_0 (fc e_PF_stratum_1 (fc e_PF_stratum_4 (fc e_PF_stratum_5 (fc e_PF_stratum_8 (fc e_PF_stratum_11 (fc e_PF_stratum_12 (fc e_PF_stratum_15 (fc e_PF_stratum_18 (fc e_PF_stratum_19 (fc e_PF_stratum_20 (fc e_PF_stratum_23 (fc e_PF_stratum_24 (fun _ h => absurd h List.not_mem_nil)))))))))))))
theorem rt_PF_stratum : ∀ x ∈ k_PF_stratum, okR 0 x.2.1 = true := by decide +kernel
theorem e_PF_line_0 : okE R_PF 0 b_PF_line (0, (.iload_n 1, 1, 0, 0, 1, 0, 0, [])) := ⟨by decide +kernel, rfl, rfl⟩
theorem e_PF_line_1 : okE R_PF 0 b_PF_line (1, (.invokestatic 178, 4, 0, 0, 0, 0, 0, [])) := ⟨by decide +kernel, rfl, trivial⟩
theorem e_PF_line_4 : okE R_PF 0 b_PF_line (4, (.ifCond .eq 16, 7, 0, 0, 20, 0, 0, [])) := ⟨by decide +kernel, rfl, rfl⟩
theorem e_PF_line_7 : okE R_PF 0 b_PF_line (7, (.aload_n 0, 8, 0, 0, 0, 0, 0, [])) := ⟨by decide +kernel, rfl, rfl⟩
theorem e_PF_line_8 : okE R_PF 0 b_PF_line (8, (.getfield 12, 11, 0, 0, 0, 0, 2, [])) := ⟨by decide +kernel, rfl, ⟨_, _, _, rfl, by decide, wf_PF_12, rfl, rfl⟩⟩
theorem e_PF_line_11 : okE R_PF 0 b_PF_line (11, (.iload_n 1, 12, 0, 0, 1, 0, 0, [])) := ⟨by decide +kernel, rfl, rfl⟩
theorem e_PF_line_12 : okE R_PF 0 b_PF_line (12, (.iload_n 2, 13, 0, 0, 2, 0, 0, [])) := ⟨by decide +kernel, rfl, rfl⟩
theorem e_PF_line_13 : okE R_PF 0 b_PF_line (13, (.iload_n 3, 14, 0, 0, 3, 0, 0, [])) := ⟨by decide +kernel, rfl, rfl⟩
theorem e_PF_line_14 : okE R_PF 0 b_PF_line (14, (.invokevirtual 181, 17, 0, 0, 1, 0, 0, [])) := ⟨by decide +kernel, rfl, trivial⟩
theorem e_PF_line_17 : okE R_PF 0 b_PF_line (17, (.goto 4, 20, 0, 0, 21, 0, 0, [])) := ⟨by decide +kernel, rfl, rfl⟩
theorem e_PF_line_20 : okE R_PF 0 b_PF_line (20, (.iconst (-1), 21, (-1), 0, 0, 0, 0, [])) := ⟨by decide +kernel, rfl, rfl⟩
theorem e_PF_line_21 : okE R_PF 0 b_PF_line (21, (.ireturn, 22, 0, 0, 0, 0, 0, [])) := ⟨by decide +kernel, rfl, trivial⟩
def k_PF_line : List (Nat × En) := [(0, (.iload_n 1, 1, 0, 0, 1, 0, 0, [])), (1, (.invokestatic 178, 4, 0, 0, 0, 0, 0, [])), (4, (.ifCond .eq 16, 7, 0, 0, 20, 0, 0, [])), (7, (.aload_n 0, 8, 0, 0, 0, 0, 0, [])), (8, (.getfield 12, 11, 0, 0, 0, 0, 2, [])), (11, (.iload_n 1, 12, 0, 0, 1, 0, 0, [])), (12, (.iload_n 2, 13, 0, 0, 2, 0, 0, [])), (13, (.iload_n 3, 14, 0, 0, 3, 0, 0, [])), (14, (.invokevirtual 181, 17, 0, 0, 1, 0, 0, [])), (17, (.goto 4, 20, 0, 0, 21, 0, 0, [])), (20, (.iconst (-1), 21, (-1), 0, 0, 0, 0, [])), (21, (.ireturn, 22, 0, 0, 0, 0, 0, []))]
set_option maxRecDepth 100000 in
theorem ok_PF_line : ∀ x ∈ k_PF_line, okE R_PF 0 b_PF_line x := fc e_PF_line_0 (fc e_PF_line_1 (fc e_PF_line_4 (fc e_PF_line_7 (fc e_PF_line_8 (fc e_PF_line_11 (fc e_PF_line_12 (fc e_PF_line_13 (fc e_PF_line_14 (fc e_PF_line_17 (fc e_PF_line_20 (fc e_PF_line_21 (fun _ h => absurd h List.not_mem_nil))))))))))))
theorem rt_PF_line : ∀ x ∈ k_PF_line, okR 0 x.2.1 = true := by decide +kernel
theorem e_PF_isOperation_0 : okE R_PF 0 b_PF_isOperation (0, (.iload_n 0, 1, 0, 0, 0, 0, 0, [])) := ⟨by decide +kernel, rfl, rfl⟩
theorem e_PF_isOperation_1 : okE R_PF 0 b_PF_isOperation (1, (.ifCond .lt 13, 4, 0, 0, 14, 0, 0, [])) := ⟨by decide +kernel, rfl, rfl⟩
theorem e_PF_isOperation_4 : okE R_PF 0 b_PF_isOperation (4, (.iload_n 0, 5, 0, 0, 0, 0, 0, [])) := ⟨by decide +kernel, rfl, rfl⟩
theorem e_PF_isOperation_5 : okE R_PF 0 b_PF_isOperation (5, (.bipush 6, 7, 6, 0, 0, 0, 0, [])) := ⟨by decide +kernel, rfl, rfl⟩
theorem e_PF_isOperation_7 : okE R_PF 0 b_PF_isOperation (7, (.if_icmp .ge 7, 10, 0, 0, 14, 0, 0, [])) := ⟨by decide +kernel, rfl, rfl⟩
theorem e_PF_isOperation_10 : okE R_PF 0 b_PF_isOperation (10, (.iconst 1, 11, 1, 0, 0, 0, 0, [])) := ⟨by decide +kernel, rfl, rfl⟩
theorem e_PF_isOperation_11 : okE R_PF 0 b_PF_isOperation (11, (.goto 4, 14, 0, 0, 15, 0, 0, [])) := ⟨by decide +kernel, rfl, rfl⟩
theorem e_PF_isOperation_14 : okE R_PF 0 b_PF_isOperation (14, (.iconst 0, 15, 0, 0, 0, 0, 0, [])) := ⟨by decide +kernel, rfl, rfl⟩
theorem e_PF_isOperation_15 : okE R_PF 0 b_PF_isOperation (15, (.ireturn, 16, 0, 0, 0, 0, 0, [])) := ⟨by decide +kernel, rfl, trivial⟩
def k_PF_isOperation : List (Nat × En) := [(0, (.iload_n 0, 1, 0, 0, 0, 0, 0, [])), (1, (.ifCond .lt 13, 4, 0, 0, 14, 0, 0, [])), (4, (.iload_n 0, 5, 0, 0, 0, 0, 0, [])), (5, (.bipush 6, 7, 6, 0, 0, 0, 0, [])), (7, (.if_icmp .ge 7, 10, 0, 0, 14, 0, 0, [])), (10, (.iconst 1, 11, 1, 0, 0, 0, 0, [])), (11, (.goto 4, 14, 0, 0, 15, 0, 0, [])), (14, (.iconst 0, 15, 0, 0, 0, 0, 0, [])), (15, (.ireturn, 16, 0, 0, 0, 0, 0, []))]
set_option maxRecDepth 100000 in
theorem ok_PF_isOperation : ∀ x ∈ k_PF_isOperation, okE R_PF 0 b_PF_isOperation x := fc e_PF_isOperation_0 (fc e_PF_isOperation_1 (fc e_PF_isOperation_4 (fc e_PF_isOperation_5 (fc e_PF_isOperation_7 (fc e_PF_isOperation_10 (fc e_PF_isOperation_11 (fc e_PF_isOperation_14 (fc e_PF_isOperation_15 (fun _ h => absurd h List.not_mem_nil)))))))))
theorem rt_PF_isOperation : ∀ x ∈ k_PF_isOperation, okR 1 x.2.1 = true := by decide +kernel
theorem e_PF_changes_0 : okE R_PF 0 b_PF_changes (0, (.aload_n 0, 1, 0, 0, 0, 0, 0, [])) := ⟨by decide +kernel, rfl, rfl⟩
theorem e_PF_changes_1 : okE R_PF 0 b_PF_changes (1, (.getfield 47, 4, 0, 0, 0, 5, 0, [])) := ⟨by decide +kernel, rfl, ⟨_, _, _, rfl, by decide, wf_PF_47, rfl, rfl⟩⟩
theorem e_PF_changes_4 : okE R_PF 0 b_PF_changes (4, (.ireturn, 5, 0, 0, 0, 0, 0, [])) := ⟨by decide +kernel, rfl, trivial⟩
def k_PF_changes : List (Nat × En) := [(0, (.aload_n 0, 1, 0, 0, 0, 0, 0, [])), (1, (.getfield 47, 4, 0, 0, 0, 5, 0, [])), (4, (.ireturn, 5, 0, 0, 0, 0, 0, []))]
set_option maxRecDepth 100000 in
theorem ok_PF_changes : ∀ x ∈ k_PF_changes, okE R_PF 0 b_PF_changes x := fc e_PF_changes_0 (fc e_PF_changes_1 (fc e_PF_changes_4 (fun _ h => absurd h List.not_mem_nil)))
theorem rt_PF_changes : ∀ x ∈ k_PF_changes, okR 0 x.2.1 = true := by decide +kernel
theorem e_PF_step_0 : okE R_PF 0 b_PF_step (0, (.iload_n 1, 1, 0, 0, 1, 0, 0, [])) := ⟨by decide +kernel, rfl, rfl⟩
theorem e_PF_step_1 : okE R_PF 0 b_PF_step (1, (.invokestatic 113, 4, 0, 0, 0, 0, 0, [])) := ⟨by decide +kernel, rfl, trivial⟩
theorem e_PF_step_4 : okE R_PF 0 b_PF_step (4, (.ifCond .eq 18, 7, 0, 0, 22, 0, 0, [])) := ⟨by decide +kernel, rfl, rfl⟩
theorem e_PF_step_7 : okE R_PF 0 b_PF_step (7, (.aload_n 0, 8, 0, 0, 0, 0, 0, [])) := ⟨by decide +kernel, rfl, rfl⟩
theorem e_PF_step_8 : okE R_PF 0 b_PF_step (8, (.getfield 12, 11, 0, 0, 0, 0, 2, [])) := ⟨by decide +kernel, rfl, ⟨_, _, _, rfl, by decide, wf_PF_12, rfl, rfl⟩⟩
theorem e_PF_step_11 : okE R_PF 0 b_PF_step (11, (.getfield 184, 14, 0, 0, 1, 0, 2, [])) := ⟨by decide +kernel, rfl, ⟨_, _, _, rfl, by decide, wf_PF_184, rfl, rfl⟩⟩
theorem e_PF_step_14 : okE R_PF 0 b_PF_step (14, (.iload_n 1, 15, 0, 0, 1, 0, 0, [])) := ⟨by decide +kernel, rfl, rfl⟩
theorem e_PF_step_15 : okE R_PF 0 b_PF_step (15, (.iaload, 16, 0, 0, 0, 0, 0, [])) := ⟨by decide +kernel, rfl, trivial⟩
theorem e_PF_step_16 : okE R_PF 0 b_PF_step (16, (.invokestatic 178, 19, 0, 0, 1, 0, 0, [])) := ⟨by decide +kernel, rfl, trivial⟩
theorem e_PF_step_19 : okE R_PF 0 b_PF_step (19, (.ifCond .ne 5, 22, 0, 0, 24, 0, 0, [])) := ⟨by decide +kernel, rfl, rfl⟩
theorem e_PF_step_22 : okE R_PF 0 b_PF_step (22, (.iconst 0, 23, 0, 0, 0, 0, 0, [])) := ⟨by decide +kernel, rfl, rfl⟩
theorem e_PF_step_23 : okE R_PF 0 b_PF_step (23, (.ireturn, 24, 0, 0, 0, 0, 0, [])) := ⟨by decide +kernel, rfl, trivial⟩
theorem e_PF_step_24 : okE R_PF 0 b_PF_step (24, (.aload_n 0, 25, 0, 0, 0, 0, 0, [])) := ⟨by decide +kernel, rfl, rfl⟩
theorem e_PF_step_25 : okE R_PF 0 b_PF_step (25, (.getfield 43, 28, 0, 0, 0, 4, 2, [])) := ⟨by decide +kernel, rfl, ⟨_, _, _, rfl, by decide, wf_PF_43, rfl, rfl⟩⟩
theorem e_PF_step_28 : okE R_PF 0 b_PF_step (28, (.aload_n 0, 29, 0, 0, 0, 0, 0, [])) := ⟨by decide +kernel, rfl, rfl⟩
theorem e_PF_step_29 : okE R_PF 0 b_PF_step (29, (.getfield 12, 32, 0, 0, 0, 0, 2, [])) := ⟨by decide +kernel, rfl, ⟨_, _, _, rfl, by decide, wf_PF_12, rfl, rfl⟩⟩
theorem e_PF_step_32 : okE R_PF 0 b_PF_step (32, (.getfield 184, 35, 0, 0, 1, 0, 2, [])) := ⟨by decide +kernel, rfl, ⟨_, _, _, rfl, by decide, wf_PF_184, rfl, rfl⟩⟩
theorem e_PF_step_35 : okE R_PF 0 b_PF_step (35, (.iload_n 1, 36, 0, 0, 1, 0, 0, [])) := ⟨by decide +kernel, rfl, rfl⟩
theorem e_PF_step_36 : okE R_PF 0 b_PF_step (36, (.iaload, 37, 0, 0, 0, 0, 0, [])) := ⟨by decide +kernel, rfl, trivial⟩
theorem e_PF_step_37 : okE R_PF 0 b_PF_step (37, (.aload_n 0, 38, 0, 0, 0, 0, 0, [])) := ⟨by decide +kernel, rfl, rfl⟩
theorem e_PF_step_38 : okE R_PF 0 b_PF_step (38, (.getfield 12, 41, 0, 0, 0, 0, 2, [])) := ⟨by decide +kernel, rfl, ⟨_, _, _, rfl, by decide, wf_PF_12, rfl, rfl⟩⟩
theorem e_PF_step_41 : okE R_PF 0 b_PF_step (41, (.getfield 187, 44, 0, 0, 1, 1, 2, [])) := ⟨by decide +kernel, rfl, ⟨_, _, _, rfl, by decide, wf_PF_187, rfl, rfl⟩⟩
theorem e_PF_step_44 : okE R_PF 0 b_PF_step (44, (.iload_n 1, 45, 0, 0, 1, 0, 0, [])) := ⟨by decide +kernel, rfl, rfl⟩
theorem e_PF_step_45 : okE R_PF 0 b_PF_step (45, (.iaload, 46, 0, 0, 0, 0, 0, [])) := ⟨by decide +kernel, rfl, trivial⟩
theorem e_PF_step_46 : okE R_PF 0 b_PF_step (46, (.aload_n 0, 47, 0, 0, 0, 0, 0, [])) := ⟨by decide +kernel, rfl, rfl⟩
theorem e_PF_step_47 : okE R_PF 0 b_PF_step (47, (.getfield 12, 50, 0, 0, 0, 0, 2, [])) := ⟨by decide +kernel, rfl, ⟨_, _, _, rfl, by decide, wf_PF_12, rfl, rfl⟩⟩
theorem e_PF_step_50 : okE R_PF 0 b_PF_step (50, (.getfield 190, 53, 0, 0, 1, 2, 2, [])) := ⟨by decide +kernel, rfl, ⟨_, _, _, rfl, by decide, wf_PF_190, rfl, rfl⟩⟩
theorem e_PF_step_53 : okE R_PF 0 b_PF_step (53, (.iload_n 1, 54, 0, 0, 1, 0, 0, [])) := ⟨by decide +kernel, rfl, rfl⟩
theorem e_PF_step_54 : okE R_PF 0 b_PF_step (54, (.iaload, 55, 0, 0, 0, 0, 0, [])) := ⟨by decide +kernel, rfl, trivial⟩
theorem e_PF_step_55 : okE R_PF 0 b_PF_step (55, (.invokevirtual 193, 58, 0, 0, 2, 0, 0, [])) := ⟨by decide +kernel, rfl, trivial⟩
theorem e_PF_step_58 : okE R_PF 0 b_PF_step (58, (.ireturn, 59, 0, 0, 0, 0, 0, [])) := ⟨by decide +kernel, rfl, trivial⟩
def k_PF_step : List (Nat × En) := [(0, (.iload_n 1, 1, 0, 0, 1, 0, 0, [])), (1, (.invokestatic 113, 4, 0, 0, 0, 0, 0, [])), (4, (.ifCond .eq 18, 7, 0, 0, 22, 0, 0, [])), (7, (.aload_n 0, 8, 0, 0, 0, 0, 0, [])), (8, (.getfield 12, 11, 0, 0, 0, 0, 2, [])), (11, (.getfield 184, 14, 0, 0, 1, 0, 2, [])), (14, (.iload_n 1, 15, 0, 0, 1, 0, 0, [])), (15, (.iaload, 16, 0, 0, 0, 0, 0, [])), (16, (.invokestatic 178, 19, 0, 0, 1, 0, 0, [])), (19, (.ifCond .ne 5, 22, 0, 0, 24, 0, 0, [])), (22, (.iconst 0, 23, 0, 0, 0, 0, 0, [])), (23, (.ireturn, 24, 0, 0, 0, 0, 0, [])), (24, (.aload_n 0, 25, 0, 0, 0, 0, 0, [])), (25, (.getfield 43, 28, 0, 0, 0, 4, 2, [])), (28, (.aload_n 0, 29, 0, 0, 0, 0, 0, [])), (29, (.getfield 12, 32, 0, 0, 0, 0, 2, [])), (32, (.getfield 184, 35, 0, 0, 1, 0, 2, [])), (35, (.iload_n 1, 36, 0, 0, 1, 0, 0, [])), (36, (.iaload, 37, 0, 0, 0, 0, 0, [])), (37, (.aload_n 0, 38, 0, 0, 0, 0, 0, [])), (38, (.getfield 12, 41, 0, 0, 0, 0, 2, [])), (41, (.getfield 187, 44, 0, 0, 1, 1, 2, [])), (44, (.iload_n 1, 45, 0, 0, 1, 0, 0, [])), (45, (.iaload, 46, 0, 0, 0, 0, 0, [])), (46, (.aload_n 0, 47, 0, 0, 0, 0, 0, [])), (47, (.getfield 12, 50, 0, 0, 0, 0, 2, [])), (50, (.getfield 190, 53, 0, 0, 1, 2, 2, [])), (53, (.iload_n 1, 54, 0, 0, 1, 0, 0, [])), (54, (.iaload, 55, 0, 0, 0, 0, 0, [])), (55, (.invokevirtual 193, 58, 0, 0, 2, 0, 0, [])), (58, (.ireturn, 59, 0, 0, 0, 0, 0, []))]
set_option maxRecDepth 100000 in
theorem ok_PF_step : ∀ x ∈ k_PF_step, okE R_PF 0 b_PF_step x := fc e_PF_step_0 (fc e_PF_step_1 (fc e_PF_step_4 (fc e_PF_step_7 (fc e_PF_step_8 (fc e_PF_step_11 (fc e_PF_step_14 (fc e_PF_step_15 (fc e_PF_step_16 (fc e_PF_step_19 (fc e_PF_step_22 (fc e_PF_step_23 (fc e_PF_step_24 (fc e_PF_step_25 (fc e_PF_step_28 (fc e_PF_step_29 (fc e_PF_step_32 (fc e_PF_step_35 (fc e_PF_step_36 (fc e_PF_step_37 (fc e_PF_step_38 (fc e_PF_step_41 (fc e_PF_step_44 (fc e_PF_step_45 (fc e_PF_step_46 (fc e_PF_step_47 (fc e_PF_step_50 (fc e_PF_step_53 (fc e_PF_step_54 (fc e_PF_step_55 (fc e_PF_step_58 (fun _ h => absurd h List.not_mem_nil)))))))))))))))))))))))))))))))
theorem rt_PF_step : ∀ x ∈ k_PF_step, okR 1 x.2.1 = true := by decide +kernel
theorem e_PF_site_0 : okE R_PF 0 b_PF_site (0, (.iload_n 1, 1, 0, 0, 1, 0, 0, [])) := ⟨by decide +kernel, rfl, rfl⟩
theorem e_PF_site_1 : okE R_PF 0 b_PF_site (1, (.invokestatic 116, 4, 0, 0, 0, 0, 0, [])) := ⟨by decide +kernel, rfl, trivial⟩
theorem e_PF_site_4 : okE R_PF 0 b_PF_site (4, (.ifCond .eq 14, 7, 0, 0, 18, 0, 0, [])) := ⟨by decide +kernel, rfl, rfl⟩
theorem e_PF_site_7 : okE R_PF 0 b_PF_site (7, (.aload_n 0, 8, 0, 0, 0, 0, 0, [])) := ⟨by decide +kernel, rfl, rfl⟩
theorem e_PF_site_8 : okE R_PF 0 b_PF_site (8, (.getfield 43, 11, 0, 0, 0, 4, 2, [])) := ⟨by decide +kernel, rfl, ⟨_, _, _, rfl, by decide, wf_PF_43, rfl, rfl⟩⟩
theorem e_PF_site_11 : okE R_PF 0 b_PF_site (11, (.iload_n 1, 12, 0, 0, 1, 0, 0, [])) := ⟨by decide +kernel, rfl, rfl⟩
theorem e_PF_site_12 : okE R_PF 0 b_PF_site (12, (.invokevirtual 197, 15, 0, 0, 1, 0, 0, [])) := ⟨by decide +kernel, rfl, trivial⟩
theorem e_PF_site_15 : okE R_PF 0 b_PF_site (15, (.goto 4, 18, 0, 0, 19, 0, 0, [])) := ⟨by decide +kernel, rfl, rfl⟩
theorem e_PF_site_18 : okE R_PF 0 b_PF_site (18, (.iconst (-1), 19, (-1), 0, 0, 0, 0, [])) := ⟨by decide +kernel, rfl, rfl⟩
theorem e_PF_site_19 : okE R_PF 0 b_PF_site (19, (.ireturn, 20, 0, 0, 0, 0, 0, [])) := ⟨by decide +kernel, rfl, trivial⟩
def k_PF_site : List (Nat × En) := [(0, (.iload_n 1, 1, 0, 0, 1, 0, 0, [])), (1, (.invokestatic 116, 4, 0, 0, 0, 0, 0, [])), (4, (.ifCond .eq 14, 7, 0, 0, 18, 0, 0, [])), (7, (.aload_n 0, 8, 0, 0, 0, 0, 0, [])), (8, (.getfield 43, 11, 0, 0, 0, 4, 2, [])), (11, (.iload_n 1, 12, 0, 0, 1, 0, 0, [])), (12, (.invokevirtual 197, 15, 0, 0, 1, 0, 0, [])), (15, (.goto 4, 18, 0, 0, 19, 0, 0, [])), (18, (.iconst (-1), 19, (-1), 0, 0, 0, 0, [])), (19, (.ireturn, 20, 0, 0, 0, 0, 0, []))]
set_option maxRecDepth 100000 in
theorem ok_PF_site : ∀ x ∈ k_PF_site, okE R_PF 0 b_PF_site x := fc e_PF_site_0 (fc e_PF_site_1 (fc e_PF_site_4 (fc e_PF_site_7 (fc e_PF_site_8 (fc e_PF_site_11 (fc e_PF_site_12 (fc e_PF_site_15 (fc e_PF_site_18 (fc e_PF_site_19 (fun _ h => absurd h List.not_mem_nil))))))))))
theorem rt_PF_site : ∀ x ∈ k_PF_site, okR 0 x.2.1 = true := by decide +kernel
theorem e_PF_objects_0 : okE R_PF 0 b_PF_objects (0, (.aload_n 0, 1, 0, 0, 0, 0, 0, [])) := ⟨by decide +kernel, rfl, rfl⟩
theorem e_PF_objects_1 : okE R_PF 0 b_PF_objects (1, (.getfield 43, 4, 0, 0, 0, 4, 2, [])) := ⟨by decide +kernel, rfl, ⟨_, _, _, rfl, by decide, wf_PF_43, rfl, rfl⟩⟩
theorem e_PF_objects_4 : okE R_PF 0 b_PF_objects (4, (.getfield 200, 7, 0, 0, 7, 3, 0, [])) := ⟨by decide +kernel, rfl, ⟨_, _, _, rfl, by decide, wf_PF_200, rfl, rfl⟩⟩
theorem e_PF_objects_7 : okE R_PF 0 b_PF_objects (7, (.ireturn, 8, 0, 0, 0, 0, 0, [])) := ⟨by decide +kernel, rfl, trivial⟩
def k_PF_objects : List (Nat × En) := [(0, (.aload_n 0, 1, 0, 0, 0, 0, 0, [])), (1, (.getfield 43, 4, 0, 0, 0, 4, 2, [])), (4, (.getfield 200, 7, 0, 0, 7, 3, 0, [])), (7, (.ireturn, 8, 0, 0, 0, 0, 0, []))]
set_option maxRecDepth 100000 in
theorem ok_PF_objects : ∀ x ∈ k_PF_objects, okE R_PF 0 b_PF_objects x := fc e_PF_objects_0 (fc e_PF_objects_1 (fc e_PF_objects_4 (fc e_PF_objects_7 (fun _ h => absurd h List.not_mem_nil))))
theorem rt_PF_objects : ∀ x ∈ k_PF_objects, okR 0 x.2.1 = true := by decide +kernel
