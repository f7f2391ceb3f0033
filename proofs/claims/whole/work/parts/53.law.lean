def C_LW_law : Cf := fun id => match id with
  | 0 => trF (0 + 1) pr_PF_init po_PF_init
  | 1 => trF (0 + 1) pr_PM_init po_PM_init
  | 2 => trF (1 + 1) pr_PF_relation po_PF_relation
  | 3 => trF (1 + 1) pr_PM_relation po_PM_relation
  | 4 => trF (4 + 1) pr_PF_fact po_PF_fact
  | 5 => trF (4 + 1) pr_PM_fact po_PM_fact
  | 6 => trF (4 + 1) pr_PF_literal po_PF_literal
  | 7 => trF (4 + 1) pr_PM_literal po_PM_literal
  | 8 => trF (0 + 1) pr_PF_rule po_PF_rule
  | 9 => trF (0 + 1) pr_PM_rule po_PM_rule
  | 10 => trF (1 + 1) pr_PF_forget po_PF_forget
  | 11 => trF (1 + 1) pr_PM_forget po_PM_forget
  | 12 => trF (4 + 1) pr_PF_edit po_PF_edit
  | 13 => trF (4 + 1) pr_PM_edit po_PM_edit
  | 14 => trF (3 + 1) pr_PF_holds po_PF_holds
  | 15 => trF (3 + 1) pr_PM_holds po_PM_holds
  | 16 => trF (1 + 1) pr_PF_size po_PF_size
  | 17 => trF (1 + 1) pr_PM_size po_PM_size
  | 18 => trF (2 + 1) pr_PF_tuple po_PF_tuple
  | 19 => trF (2 + 1) pr_PM_tuple po_PM_tuple
  | 20 => trF (3 + 1) pr_PF_ways po_PF_ways
  | 21 => trF (3 + 1) pr_PM_ways po_PM_ways
  | 22 => trF (1 + 1) pr_PF_stratum po_PF_stratum
  | 23 => trF (1 + 1) pr_PM_stratum po_PM_stratum
  | 24 => trF (3 + 1) pr_PF_line po_PF_line
  | 25 => trF (3 + 1) pr_PM_line po_PM_line
  | 26 => trF (0 + 1) pr_PF_changes po_PF_changes
  | 27 => trF (0 + 1) pr_PM_changes po_PM_changes
  | 28 => trF (1 + 1) pr_PF_step po_PF_step
  | 29 => trF (1 + 1) pr_PM_step po_PM_step
  | 30 => trF (1 + 1) pr_PF_site po_PF_site
  | 31 => trF (1 + 1) pr_PM_site po_PM_site
  | 32 => trF (0 + 1) pr_PF_objects po_PF_objects
  | 33 => trF (0 + 1) pr_PM_objects po_PM_objects
  | _ => fun _ _ _ => False
set_option maxRecDepth 100000 in
theorem cs_LW_law (l : Launch) : ∀ x ∈ k_LW_law, CS l R_LW code 4 room_1 0 131 C_LW_law x := fc (CS.no rfl) (fc (CS.no rfl) (fc (CS.I c_PF_init wk_PF_init wl_LW_9 wm_PF_init rfl rfl wi_PF dn_PF_init ⟨rfl, rfl⟩ ⟨by decide, by decide⟩ (ft_PF_init 131 (by decide)) rfl (e_LW_law_4).1) (fc (CS.no rfl) (fc (CS.no rfl) (fc (CS.no rfl) (fc (CS.I c_PM_init wk_PM_init wl_LW_12 wm_PM_init rfl rfl wi_PM dn_PM_init ⟨rfl, rfl⟩ ⟨by decide, by decide⟩ ft_PM_init rfl (e_LW_law_12).1) (fc (CS.no rfl) (fc (CS.no rfl) (fc (CS.no rfl) (fc (CS.no rfl) (fc (CS.no rfl) (fc (CS.no rfl) (fc (CS.no rfl) (fc (CS.no rfl) (fc (CS.no rfl) (fc (CS.no rfl) (fc (CS.no rfl) (fc (CS.no rfl) (fc (CS.no rfl) (fc (CS.no rfl) (fc (CS.no rfl) (fc (CS.no rfl) (fc (CS.no rfl) (fc (CS.no rfl) (fc (CS.no rfl) (fc (CS.no rfl) (fc (CS.no rfl) (fc (CS.V c_PF_relation wk_PF_relation wl_LW_13 wm_PF_relation we_PF_relation rfl rfl wi_PF dn_PF_relation ⟨rfl, rfl⟩ ⟨by decide, by decide⟩ ft_PF_relation rfl (e_LW_law_118).1) (fc (CS.no rfl) (fc (CS.no rfl) (fc (CS.no rfl) (fc (CS.no rfl) (fc (CS.no rfl) (fc (CS.no rfl) (fc (CS.V c_PM_relation wk_PM_relation wl_LW_17 wm_PM_relation we_PM_relation rfl rfl wi_PM dn_PM_relation ⟨rfl, rfl⟩ ⟨by decide, by decide⟩ ft_PM_relation rfl (e_LW_law_127).1) (fc (CS.no rfl) (fc (CS.no rfl) (fc (CS.no rfl) (fc (CS.no rfl) (fc (CS.no rfl) (fc (CS.no rfl) (fc (CS.no rfl) (fc (CS.no rfl) (fc (CS.no rfl) (fc (CS.no rfl) (fc (CS.no rfl) (fc (CS.no rfl) (fc (CS.no rfl) (fc (CS.no rfl) (fc (CS.no rfl) (fc (CS.no rfl) (fc (CS.no rfl) (fc (CS.no rfl) (fc (CS.no rfl) (fc (CS.no rfl) (fc (CS.no rfl) (fc (CS.no rfl) (fc (CS.no rfl) (fc (CS.no rfl) (fc (CS.no rfl) (fc (CS.no rfl) (fc (CS.no rfl) (fc (CS.no rfl) (fc (CS.V c_PF_fact wk_PF_fact wl_LW_18 wm_PF_fact we_PF_fact rfl rfl wi_PF dn_PF_fact ⟨rfl, rfl⟩ ⟨by decide, by decide⟩ ft_PF_fact rfl (e_LW_law_164).1) (fc (CS.no rfl) (fc (CS.no rfl) (fc (CS.no rfl) (fc (CS.no rfl) (fc (CS.no rfl) (fc (CS.no rfl) (fc (CS.no rfl) (fc (CS.no rfl) (fc (CS.no rfl) (fc (CS.no rfl) (fc (CS.no rfl) (fc (CS.no rfl) (fc (CS.no rfl) (fc (CS.no rfl) (fc (CS.no rfl) (fc (CS.no rfl) (fc (CS.no rfl) (fc (CS.no rfl) (fc (CS.no rfl) (fc (CS.no rfl) (fc (CS.no rfl) (fc (CS.no rfl) (fc (CS.no rfl) (fc (CS.no rfl) (fc (CS.no rfl) (fc (CS.V c_PM_fact wk_PM_fact wl_LW_22 wm_PM_fact we_PM_fact rfl rfl wi_PM dn_PM_fact ⟨rfl, rfl⟩ ⟨by decide, by decide⟩ ft_PM_fact rfl (e_LW_law_196).1) (fc (CS.no rfl) (fc (CS.no rfl) (fc (CS.no rfl) (fc (CS.no rfl) (fc (CS.no rfl) (fc (CS.no rfl) (fc (CS.no rfl) (fc (CS.no rfl) (fc (CS.no rfl) (fc (CS.no rfl) (fc (CS.no rfl) (fc (CS.no rfl) (fc (CS.no rfl) (fc (CS.no rfl) (fc (CS.no rfl) (fc (CS.no rfl) (fc (CS.no rfl) (fc (CS.no rfl) (fc (CS.no rfl) (fc (CS.no rfl) (fc (CS.no rfl) (fc (CS.no rfl) (fc (CS.no rfl) (fc (CS.no rfl) (fc (CS.no rfl) (fc (CS.no rfl) (fc (CS.no rfl) (fc (CS.no rfl) (fc (CS.V c_PF_literal wk_PF_literal wl_LW_23 wm_PF_literal we_PF_literal rfl rfl wi_PF dn_PF_literal ⟨rfl, rfl⟩ ⟨by decide, by decide⟩ ft_PF_literal rfl (e_LW_law_233).1) (fc (CS.no rfl) (fc (CS.no rfl) (fc (CS.no rfl) (fc (CS.no rfl) (fc (CS.no rfl) (fc (CS.no rfl) (fc (CS.no rfl) (fc (CS.no rfl) (fc (CS.no rfl) (fc (CS.no rfl) (fc (CS.no rfl) (fc (CS.no rfl) (fc (CS.no rfl) (fc (CS.no rfl) (fc (CS.no rfl) (fc (CS.no rfl) (fc (CS.no rfl) (fc (CS.no rfl) (fc (CS.no rfl) (fc (CS.no rfl) (fc (CS.no rfl) (fc (CS.no rfl) (fc (CS.no rfl) (fc (CS.no rfl) (fc (CS.no rfl) (fc (CS.V c_PM_literal wk_PM_literal wl_LW_27 wm_PM_literal we_PM_literal rfl rfl wi_PM dn_PM_literal ⟨rfl, rfl⟩ ⟨by decide, by decide⟩ ft_PM_literal rfl (e_LW_law_265).1) (fc (CS.no rfl) (fc (CS.no rfl) (fc (CS.no rfl) (fc (CS.no rfl) (fc (CS.V c_PF_rule wk_PF_rule wl_LW_28 wm_PF_rule we_PF_rule rfl rfl wi_PF dn_PF_rule ⟨rfl, rfl⟩ ⟨by decide, by decide⟩ ft_PF_rule rfl (e_LW_law_274).1) (fc (CS.no rfl) (fc (CS.V c_PM_rule wk_PM_rule wl_LW_32 wm_PM_rule we_PM_rule rfl rfl wi_PM dn_PM_rule ⟨rfl, rfl⟩ ⟨by decide, by decide⟩ ft_PM_rule rfl (e_LW_law_278).1) (fc (CS.no rfl) (fc (CS.no rfl) (fc (CS.no rfl) (fc (CS.no rfl) (fc (CS.no rfl) (fc (CS.no rfl) (fc (CS.no rfl) (fc (CS.no rfl) (fc (CS.no rfl) (fc (CS.V c_PF_forget wk_PF_forget wl_LW_33 wm_PF_forget we_PF_forget rfl rfl wi_PF dn_PF_forget ⟨rfl, rfl⟩ ⟨by decide, by decide⟩ ft_PF_forget rfl (e_LW_law_292).1) (fc (CS.no rfl) (fc (CS.no rfl) (fc (CS.no rfl) (fc (CS.no rfl) (fc (CS.no rfl) (fc (CS.no rfl) (fc (CS.V c_PM_forget wk_PM_forget wl_LW_37 wm_PM_forget we_PM_forget rfl rfl wi_PM dn_PM_forget ⟨rfl, rfl⟩ ⟨by decide, by decide⟩ ft_PM_forget rfl (e_LW_law_301).1) (fc (CS.no rfl) (fc (CS.no rfl) (fc (CS.no rfl) (fc (CS.no rfl) (fc (CS.no rfl) (fc (CS.no rfl) (fc (CS.no rfl) (fc (CS.no rfl) (fc (CS.no rfl) (fc (CS.no rfl) (fc (CS.no rfl) (fc (CS.no rfl) (fc (CS.no rfl) (fc (CS.no rfl) (fc (CS.no rfl) (fc (CS.no rfl) (fc (CS.no rfl) (fc (CS.no rfl) (fc (CS.no rfl) (fc (CS.no rfl) (fc (CS.no rfl) (fc (CS.no rfl) (fc (CS.no rfl) (fc (CS.no rfl) (fc (CS.V c_PF_edit wk_PF_edit wl_LW_38 wm_PF_edit we_PF_edit rfl rfl wi_PF dn_PF_edit ⟨rfl, rfl⟩ ⟨by decide, by decide⟩ ft_PF_edit rfl (e_LW_law_330).1) (fc (CS.no rfl) (fc (CS.no rfl) (fc (CS.no rfl) (fc (CS.no rfl) (fc (CS.no rfl) (fc (CS.no rfl) (fc (CS.no rfl) (fc (CS.no rfl) (fc (CS.no rfl) (fc (CS.no rfl) (fc (CS.no rfl) (fc (CS.no rfl) (fc (CS.no rfl) (fc (CS.no rfl) (fc (CS.no rfl) (fc (CS.no rfl) (fc (CS.no rfl) (fc (CS.no rfl) (fc (CS.no rfl) (fc (CS.no rfl) (fc (CS.no rfl) (fc (CS.V c_PM_edit wk_PM_edit wl_LW_42 wm_PM_edit we_PM_edit rfl rfl wi_PM dn_PM_edit ⟨rfl, rfl⟩ ⟨by decide, by decide⟩ ft_PM_edit rfl (e_LW_law_354).1) (fc (CS.no rfl) (fc (CS.no rfl) (fc (CS.no rfl) (fc (CS.no rfl) (fc (CS.no rfl) (fc (CS.no rfl) (fc (CS.no rfl) (fc (CS.no rfl) (fc (CS.no rfl) (fc (CS.no rfl) (fc (CS.no rfl) (fc (CS.no rfl) (fc (CS.no rfl) (fc (CS.no rfl) (fc (CS.no rfl) (fc (CS.no rfl) (fc (CS.no rfl) (fc (CS.no rfl) (fc (CS.no rfl) (fc (CS.V c_PF_holds wk_PF_holds wl_LW_43 wm_PF_holds we_PF_holds rfl rfl wi_PF dn_PF_holds ⟨rfl, rfl⟩ ⟨by decide, by decide⟩ ft_PF_holds rfl (e_LW_law_378).1) (fc (CS.no rfl) (fc (CS.no rfl) (fc (CS.no rfl) (fc (CS.no rfl) (fc (CS.no rfl) (fc (CS.no rfl) (fc (CS.no rfl) (fc (CS.no rfl) (fc (CS.no rfl) (fc (CS.no rfl) (fc (CS.no rfl) (fc (CS.no rfl) (fc (CS.no rfl) (fc (CS.no rfl) (fc (CS.no rfl) (fc (CS.no rfl) (fc (CS.V c_PM_holds wk_PM_holds wl_LW_47 wm_PM_holds we_PM_holds rfl rfl wi_PM dn_PM_holds ⟨rfl, rfl⟩ ⟨by decide, by decide⟩ ft_PM_holds rfl (e_LW_law_397).1) (fc (CS.no rfl) (fc (CS.no rfl) (fc (CS.no rfl) (fc (CS.no rfl) (fc (CS.no rfl) (fc (CS.no rfl) (fc (CS.no rfl) (fc (CS.no rfl) (fc (CS.no rfl) (fc (CS.V c_PF_size wk_PF_size wl_LW_48 wm_PF_size we_PF_size rfl rfl wi_PF dn_PF_size ⟨rfl, rfl⟩ ⟨by decide, by decide⟩ ft_PF_size rfl (e_LW_law_411).1) (fc (CS.no rfl) (fc (CS.no rfl) (fc (CS.no rfl) (fc (CS.no rfl) (fc (CS.no rfl) (fc (CS.no rfl) (fc (CS.V c_PM_size wk_PM_size wl_LW_51 wm_PM_size we_PM_size rfl rfl wi_PM dn_PM_size ⟨rfl, rfl⟩ ⟨by decide, by decide⟩ ft_PM_size rfl (e_LW_law_420).1) (fc (CS.no rfl) (fc (CS.no rfl) (fc (CS.no rfl) (fc (CS.no rfl) (fc (CS.no rfl) (fc (CS.no rfl) (fc (CS.no rfl) (fc (CS.no rfl) (fc (CS.no rfl) (fc (CS.no rfl) (fc (CS.no rfl) (fc (CS.no rfl) (fc (CS.no rfl) (fc (CS.no rfl) (fc (CS.V c_PF_tuple wk_PF_tuple wl_LW_52 wm_PF_tuple we_PF_tuple rfl rfl wi_PF dn_PF_tuple ⟨rfl, rfl⟩ ⟨by decide, by decide⟩ ft_PF_tuple rfl (e_LW_law_439).1) (fc (CS.no rfl) (fc (CS.no rfl) (fc (CS.no rfl) (fc (CS.no rfl) (fc (CS.no rfl) (fc (CS.no rfl) (fc (CS.no rfl) (fc (CS.no rfl) (fc (CS.no rfl) (fc (CS.no rfl) (fc (CS.no rfl) (fc (CS.V c_PM_tuple wk_PM_tuple wl_LW_56 wm_PM_tuple we_PM_tuple rfl rfl wi_PM dn_PM_tuple ⟨rfl, rfl⟩ ⟨by decide, by decide⟩ ft_PM_tuple rfl (e_LW_law_453).1) (fc (CS.no rfl) (fc (CS.no rfl) (fc (CS.no rfl) (fc (CS.no rfl) (fc (CS.no rfl) (fc (CS.no rfl) (fc (CS.no rfl) (fc (CS.no rfl) (fc (CS.no rfl) (fc (CS.no rfl) (fc (CS.no rfl) (fc (CS.no rfl) (fc (CS.no rfl) (fc (CS.no rfl) (fc (CS.no rfl) (fc (CS.no rfl) (fc (CS.no rfl) (fc (CS.no rfl) (fc (CS.no rfl) (fc (CS.V c_PF_ways wk_PF_ways wl_LW_57 wm_PF_ways we_PF_ways rfl rfl wi_PF dn_PF_ways ⟨rfl, rfl⟩ ⟨by decide, by decide⟩ ft_PF_ways rfl (e_LW_law_477).1) (fc (CS.no rfl) (fc (CS.no rfl) (fc (CS.no rfl) (fc (CS.no rfl) (fc (CS.no rfl) (fc (CS.no rfl) (fc (CS.no rfl) (fc (CS.no rfl) (fc (CS.no rfl) (fc (CS.no rfl) (fc (CS.no rfl) (fc (CS.no rfl) (fc (CS.no rfl) (fc (CS.no rfl) (fc (CS.no rfl) (fc (CS.no rfl) (fc (CS.V c_PM_ways wk_PM_ways wl_LW_61 wm_PM_ways we_PM_ways rfl rfl wi_PM dn_PM_ways ⟨rfl, rfl⟩ ⟨by decide, by decide⟩ ft_PM_ways rfl (e_LW_law_496).1) (fc (CS.no rfl) (fc (CS.no rfl) (fc (CS.no rfl) (fc (CS.no rfl) (fc (CS.no rfl) (fc (CS.no rfl) (fc (CS.no rfl) (fc (CS.no rfl) (fc (CS.no rfl) (fc (CS.V c_PF_stratum wk_PF_stratum wl_LW_62 wm_PF_stratum we_PF_stratum rfl rfl wi_PF dn_PF_stratum ⟨rfl, rfl⟩ ⟨by decide, by decide⟩ ft_PF_stratum rfl (e_LW_law_510).1) (fc (CS.no rfl) (fc (CS.no rfl) (fc (CS.no rfl) (fc (CS.no rfl) (fc (CS.no rfl) (fc (CS.no rfl) (fc (CS.V c_PM_stratum wk_PM_stratum wl_LW_65 wm_PM_stratum we_PM_stratum rfl rfl wi_PM dn_PM_stratum ⟨rfl, rfl⟩ ⟨by decide, by decide⟩ ft_PM_stratum rfl (e_LW_law_519).1) (fc (CS.no rfl) (fc (CS.no rfl) (fc (CS.no rfl) (fc (CS.no rfl) (fc (CS.no rfl) (fc (CS.no rfl) (fc (CS.no rfl) (fc (CS.no rfl) (fc (CS.no rfl) (fc (CS.no rfl) (fc (CS.no rfl) (fc (CS.no rfl) (fc (CS.no rfl) (fc (CS.no rfl) (fc (CS.no rfl) (fc (CS.no rfl) (fc (CS.no rfl) (fc (CS.no rfl) (fc (CS.no rfl) (fc (CS.V c_PF_line wk_PF_line wl_LW_66 wm_PF_line we_PF_line rfl rfl wi_PF dn_PF_line ⟨rfl, rfl⟩ ⟨by decide, by decide⟩ ft_PF_line rfl (e_LW_law_543).1) (fc (CS.no rfl) (fc (CS.no rfl) (fc (CS.no rfl) (fc (CS.no rfl) (fc (CS.no rfl) (fc (CS.no rfl) (fc (CS.no rfl) (fc (CS.no rfl) (fc (CS.no rfl) (fc (CS.no rfl) (fc (CS.no rfl) (fc (CS.no rfl) (fc (CS.no rfl) (fc (CS.no rfl) (fc (CS.no rfl) (fc (CS.no rfl) (fc (CS.V c_PM_line wk_PM_line wl_LW_69 wm_PM_line we_PM_line rfl rfl wi_PM dn_PM_line ⟨rfl, rfl⟩ ⟨by decide, by decide⟩ ft_PM_line rfl (e_LW_law_562).1) (fc (CS.no rfl) (fc (CS.no rfl) (fc (CS.no rfl) (fc (CS.no rfl) (fc (CS.V c_PF_changes wk_PF_changes wl_LW_70 wm_PF_changes we_PF_changes rfl rfl wi_PF dn_PF_changes ⟨rfl, rfl⟩ ⟨by decide, by decide⟩ ft_PF_changes rfl (e_LW_law_571).1) (fc (CS.no rfl) (fc (CS.V c_PM_changes wk_PM_changes wl_LW_73 wm_PM_changes we_PM_changes rfl rfl wi_PM dn_PM_changes ⟨rfl, rfl⟩ ⟨by decide, by decide⟩ ft_PM_changes rfl (e_LW_law_575).1) (fc (CS.no rfl) (fc (CS.no rfl) (fc (CS.no rfl) (fc (CS.no rfl) (fc (CS.no rfl) (fc (CS.no rfl) (fc (CS.no rfl) (fc (CS.no rfl) (fc (CS.no rfl) (fc (CS.V c_PF_step wk_PF_step wl_LW_74 wm_PF_step we_PF_step rfl rfl wi_PF dn_PF_step ⟨rfl, rfl⟩ ⟨by decide, by decide⟩ ft_PF_step rfl (e_LW_law_589).1) (fc (CS.no rfl) (fc (CS.no rfl) (fc (CS.no rfl) (fc (CS.no rfl) (fc (CS.no rfl) (fc (CS.no rfl) (fc (CS.V c_PM_step wk_PM_step wl_LW_77 wm_PM_step we_PM_step rfl rfl wi_PM dn_PM_step ⟨rfl, rfl⟩ ⟨by decide, by decide⟩ ft_PM_step rfl (e_LW_law_598).1) (fc (CS.no rfl) (fc (CS.no rfl) (fc (CS.no rfl) (fc (CS.no rfl) (fc (CS.no rfl) (fc (CS.no rfl) (fc (CS.no rfl) (fc (CS.no rfl) (fc (CS.no rfl) (fc (CS.V c_PF_site wk_PF_site wl_LW_78 wm_PF_site we_PF_site rfl rfl wi_PF dn_PF_site ⟨rfl, rfl⟩ ⟨by decide, by decide⟩ ft_PF_site rfl (e_LW_law_612).1) (fc (CS.no rfl) (fc (CS.no rfl) (fc (CS.no rfl) (fc (CS.no rfl) (fc (CS.no rfl) (fc (CS.no rfl) (fc (CS.V c_PM_site wk_PM_site wl_LW_81 wm_PM_site we_PM_site rfl rfl wi_PM dn_PM_site ⟨rfl, rfl⟩ ⟨by decide, by decide⟩ ft_PM_site rfl (e_LW_law_621).1) (fc (CS.no rfl) (fc (CS.no rfl) (fc (CS.no rfl) (fc (CS.no rfl) (fc (CS.V c_PF_objects wk_PF_objects wl_LW_82 wm_PF_objects we_PF_objects rfl rfl wi_PF dn_PF_objects ⟨rfl, rfl⟩ ⟨by decide, by decide⟩ ft_PF_objects rfl (e_LW_law_630).1) (fc (CS.no rfl) (fc (CS.V c_PM_objects wk_PM_objects wl_LW_85 wm_PM_objects we_PM_objects rfl rfl wi_PM dn_PM_objects ⟨rfl, rfl⟩ ⟨by decide, by decide⟩ ft_PM_objects rfl (e_LW_law_634).1) (fc (CS.no rfl) (fc (CS.no rfl) (fc (CS.no rfl) (fc (CS.no rfl) (fc (CS.no rfl) (fc (CS.no rfl) (fc (CS.no rfl) (fun _ h => absurd h List.not_mem_nil))))))))))))))))))))))))))))))))))))))))))))))))))))))))))))))))))))))))))))))))))))))))))))))))))))))))))))))))))))))))))))))))))))))))))))))))))))))))))))))))))))))))))))))))))))))))))))))))))))))))))))))))))))))))))))))))))))))))))))))))))))))))))))))))))))))))))))))))))))))))))))))))))))))))))))))))))))))))))))))))))))))))))))))))))))))))))))))))))))))))))))))))))))))))))))))))))))))))))))))))))))))))))))))))))))))))))))))))))))))))))))
/-- one call on both sides: the same answer, and the invariant stays -/
def Clp (RI : mM → mL → Prop) (Q1 Q2 : Mm → Option Value → Mm → Prop) : Prop := ∀ M L, RI M L → ∀ r μ1, Q1 (131, M, L, TT) r μ1 → ∃ v M1 L1, r = some (.int v) ∧ μ1 = (131, M1, L1, TT) ∧ PI M1 ∧ ∀ r2 μ2, Q2 (131, M1, L1, TT) r2 μ2 → r2 = some (.int v) ∧ ∃ M2 L2, μ2 = (131, M2, L2, TT) ∧ RI M2 L2
/-- what the law wants of an invariant -/
def LawH (RI : mM → mL → Prop) : Prop := RI MI LI0 ∧
  (∀ M L, RI M L → CI M) ∧
  (∀ (x0 : Int32), Clp RI (po_PF_relation [.ref 0, .int x0]) (po_PM_relation [.ref 109, .int x0])) ∧
  (∀ (x0 x1 x2 x3 : Int32), (x3 = 0 ∨ x3 = 1) → Clp RI (po_PF_fact [.ref 0, .int x0, .int x1, .int x2, .int x3]) (po_PM_fact [.ref 109, .int x0, .int x1, .int x2, .int x3])) ∧
  (∀ (x0 x1 x2 x3 : Int32), (x3 = 0 ∨ x3 = 1) → Clp RI (po_PF_literal [.ref 0, .int x0, .int x1, .int x2, .int x3]) (po_PM_literal [.ref 109, .int x0, .int x1, .int x2, .int x3])) ∧
  (Clp RI (po_PF_rule [.ref 0]) (po_PM_rule [.ref 109])) ∧
  (∀ (x0 : Int32), Clp RI (po_PF_forget [.ref 0, .int x0]) (po_PM_forget [.ref 109, .int x0])) ∧
  (∀ (x0 x1 x2 x3 : Int32), Clp RI (po_PF_edit [.ref 0, .int x0, .int x1, .int x2, .int x3]) (po_PM_edit [.ref 109, .int x0, .int x1, .int x2, .int x3])) ∧
  (∀ (x0 x1 x2 : Int32), Clp RI (po_PF_holds [.ref 0, .int x0, .int x1, .int x2]) (po_PM_holds [.ref 109, .int x0, .int x1, .int x2])) ∧
  (∀ (x0 : Int32), Clp RI (po_PF_size [.ref 0, .int x0]) (po_PM_size [.ref 109, .int x0])) ∧
  (∀ (x0 x1 : Int32), Clp RI (po_PF_tuple [.ref 0, .int x0, .int x1]) (po_PM_tuple [.ref 109, .int x0, .int x1])) ∧
  (∀ (x0 x1 x2 : Int32), Clp RI (po_PF_ways [.ref 0, .int x0, .int x1, .int x2]) (po_PM_ways [.ref 109, .int x0, .int x1, .int x2])) ∧
  (∀ (x0 : Int32), Clp RI (po_PF_stratum [.ref 0, .int x0]) (po_PM_stratum [.ref 109, .int x0])) ∧
  (∀ (x0 x1 x2 : Int32), Clp RI (po_PF_line [.ref 0, .int x0, .int x1, .int x2]) (po_PM_line [.ref 109, .int x0, .int x1, .int x2])) ∧
  (Clp RI (po_PF_changes [.ref 0]) (po_PM_changes [.ref 109])) ∧
  (∀ (x0 : Int32), Clp RI (po_PF_step [.ref 0, .int x0]) (po_PM_step [.ref 109, .int x0])) ∧
  (∀ (x0 : Int32), Clp RI (po_PF_site [.ref 0, .int x0]) (po_PM_site [.ref 109, .int x0])) ∧
  (Clp RI (po_PF_objects [.ref 0]) (po_PM_objects [.ref 109]))
theorem lw_in {i L : Nat} (hi : i ≤ 2570) (hL : L ≤ 2560) (h : ¬ Int32.ofNat L - 5 < nI i) : i + 5 ≤ L := by
  have e1 : (Int32.ofNat L).toInt = L := Int32.toInt_ofNat_of_lt (by omega)
  have e2 : (nI i).toInt = i := Int32.toInt_ofNat_of_lt (by omega)
  have e3 : (Int32.ofNat L - 5).toInt = (L : Int) - 5 := by
    rw [Int32.toInt_sub, e1, show (5 : Int32).toInt = 5 from rfl]
    exact Int.bmod_eq_of_le (by omega) (by omega)
  rw [Int32.lt_iff_toInt_lt, e2, e3] at h
  omega
theorem lw_out {i L : Nat} (hi : i ≤ 2570) (hL : L ≤ i) : Int32.ofNat L - 5 < nI i := by
  have e1 : (Int32.ofNat L).toInt = L := Int32.toInt_ofNat_of_lt (by omega)
  have e2 : (nI i).toInt = i := Int32.toInt_ofNat_of_lt (by omega)
  have e3 : (Int32.ofNat L - 5).toInt = (L : Int) - 5 := by
    rw [Int32.toInt_sub, e1, show (5 : Int32).toInt = 5 from rfl]
    exact Int.bmod_eq_of_le (by omega) (by omega)
  rw [Int32.lt_iff_toInt_lt, e2, e3]
  omega
theorem nI_ad (a b : Nat) : nI a + nI b = nI (a + b) := (Int32.ofNat_add a b).symm
theorem lw_vp {i j L : Nat} (hL : L ≤ 2560) (h : i + j < L) {x : Int32} (hx : x = nI j) : vp_in (nI i + x) L := by
  rw [hx, nI_ad]
  exact vp_in_nI h (by omega)
set_option maxRecDepth 100000 in
set_option maxHeartbeats 8000000 in
theorem lw_body {RI : mM → mL → Prop} (hH : LawH RI) {L : Nat} {xs : Nat → Int32} (hL : L ≤ 2560) (K : Ky) (hs : Spk 131 (L, xs) 4 C_LW_law (fun r _ => r = some (.int 1)) K k_LW_law) (hcv : Cv K) : K 0 [some (.ref 1001), none, none, none] [] (0, fun _ _ => 0, fun _ _ => 0, fun _ _ => none) := by
  obtain ⟨h00, hCI, h_relation, h_fact, h_literal, h_rule, h_forget, h_edit, h_holds, h_size, h_tuple, h_ways, h_stratum, h_line, h_changes, h_step, h_site, h_objects⟩ := hH
  have loop : ∀ (n i : Nat), i ≤ 2565 → L ≤ i + 5 * n → ∀ M L', RI M L' → K 18 [some (.ref 1001), some (.ref 0), some (.ref 109), some (.int (nI i))] [] (131, M, L', TT) := by
    intro n
    induction n with
    | zero =>
      intro i hi hn M L' hR
      exact hs.go [18] 20 _ _ _ _ ⟨rfl, fun _ => ⟨rfl, fun z => (by cases z), rfl⟩, fun z => absurd (lw_out (by omega) (by omega)) z⟩
    | succ n ih =>
      intro i hi hn M L' hR
      by_cases hg : Int32.ofNat L - 5 < nI i
      · exact hs.go [18] 20 _ _ _ _ ⟨rfl, fun _ => ⟨rfl, fun z => (by cases z), rfl⟩, fun z => absurd hg z⟩
      · have h5 := lw_in (by omega) hL hg
        have v0 : vp_in (nI i) L := vp_in_nI (by omega) (by omega)
        have v1 : vp_in (nI i + 1) L := lw_vp (j := 1) hL (by omega) rfl
        have v2 : vp_in (nI i + 2) L := lw_vp (j := 2) hL (by omega) rfl
        have v3 : vp_in (nI i + 3) L := lw_vp (j := 3) hL (by omega) rfl
        have v4 : vp_in (nI i + 4) L := lw_vp (j := 4) hL (by omega) rfl
        have nxt : ∀ M2 L2, RI M2 L2 → K 642 [some (.ref 1001), some (.ref 0), some (.ref 109), some (.int (nI i))] [] (131, M2, L2, TT) := by
          intro M2 L2 hR2
          have h9 := ih (i + 5) (by omega) (by omega) M2 L2 hR2
          have e5 : nI i + 5 = nI (i + 5) := nI_ad i 5
          rw [← e5] at h9
          exact hs.go [18] 10 _ _ _ _ h9
        have q_relation : K 112 [some (.ref 1001), some (.ref 0), some (.ref 109), some (.int (nI i))] [] (131, M, L', TT) := by
          refine hs.go [18, 642] 60 _ _ _ _ ⟨rfl, v1, ⟨rfl, ⟨rfl, rfl⟩, rfl, hCI M L' hR⟩, rfl, rfl, ?_⟩
          intro r μ1 hp
          obtain ⟨v, M1, L1, rfl, rfl, hP1, hn1⟩ := h_relation _ M L' hR r μ1 hp
          refine ⟨rfl, v1, ⟨rfl, ⟨rfl, rfl⟩, rfl, hP1⟩, rfl, rfl, ?_⟩
          intro r2 μ2 hp2
          obtain ⟨rfl, M2, L2, rfl, hR2⟩ := hn1 r2 μ2 hp2
          exact ⟨fun _ => nxt M2 L2 hR2, fun z => absurd rfl z⟩
        have q_fact : K 135 [some (.ref 1001), some (.ref 0), some (.ref 109), some (.int (nI i))] [] (131, M, L', TT) := by
          by_cases hz : xs (nI i + 4).toNatClampNeg = 0
          ·
            refine hs.go [18, 642] 60 _ _ _ _ ⟨rfl, v1, rfl, v2, rfl, v3, rfl, v4, fun _ => ⟨⟨rfl, ⟨rfl, rfl⟩, rfl, hCI M L' hR, Or.inl rfl⟩, rfl, rfl, ?_⟩, fun z => absurd hz z⟩
            intro r μ1 hp
            obtain ⟨v, M1, L1, rfl, rfl, hP1, hn1⟩ := h_fact _ _ _ _ (Or.inl rfl) M L' hR r μ1 hp
            refine ⟨rfl, v1, rfl, v2, rfl, v3, rfl, v4, fun _ => ⟨⟨rfl, ⟨rfl, rfl⟩, rfl, hP1, Or.inl rfl⟩, rfl, rfl, ?_⟩, fun z => absurd hz z⟩
            intro r2 μ2 hp2
            obtain ⟨rfl, M2, L2, rfl, hR2⟩ := hn1 r2 μ2 hp2
            exact ⟨fun _ => nxt M2 L2 hR2, fun z => absurd rfl z⟩
          ·
            refine hs.go [18, 642] 60 _ _ _ _ ⟨rfl, v1, rfl, v2, rfl, v3, rfl, v4, fun z => absurd z hz, fun _ => ⟨⟨rfl, ⟨rfl, rfl⟩, rfl, hCI M L' hR, Or.inr rfl⟩, rfl, rfl, ?_⟩⟩
            intro r μ1 hp
            obtain ⟨v, M1, L1, rfl, rfl, hP1, hn1⟩ := h_fact _ _ _ _ (Or.inr rfl) M L' hR r μ1 hp
            refine ⟨rfl, v1, rfl, v2, rfl, v3, rfl, v4, fun z => absurd z hz, fun _ => ⟨⟨rfl, ⟨rfl, rfl⟩, rfl, hP1, Or.inr rfl⟩, rfl, rfl, ?_⟩⟩
            intro r2 μ2 hp2
            obtain ⟨rfl, M2, L2, rfl, hR2⟩ := hn1 r2 μ2 hp2
            exact ⟨fun _ => nxt M2 L2 hR2, fun z => absurd rfl z⟩
        have q_literal : K 204 [some (.ref 1001), some (.ref 0), some (.ref 109), some (.int (nI i))] [] (131, M, L', TT) := by
          by_cases hz : xs (nI i + 4).toNatClampNeg = 0
          ·
            refine hs.go [18, 642] 60 _ _ _ _ ⟨rfl, v1, rfl, v2, rfl, v3, rfl, v4, fun _ => ⟨⟨rfl, ⟨rfl, rfl⟩, rfl, hCI M L' hR, Or.inl rfl⟩, rfl, rfl, ?_⟩, fun z => absurd hz z⟩
            intro r μ1 hp
            obtain ⟨v, M1, L1, rfl, rfl, hP1, hn1⟩ := h_literal _ _ _ _ (Or.inl rfl) M L' hR r μ1 hp
            refine ⟨rfl, v1, rfl, v2, rfl, v3, rfl, v4, fun _ => ⟨⟨rfl, ⟨rfl, rfl⟩, rfl, hP1, Or.inl rfl⟩, rfl, rfl, ?_⟩, fun z => absurd hz z⟩
            intro r2 μ2 hp2
            obtain ⟨rfl, M2, L2, rfl, hR2⟩ := hn1 r2 μ2 hp2
            exact ⟨fun _ => nxt M2 L2 hR2, fun z => absurd rfl z⟩
          ·
            refine hs.go [18, 642] 60 _ _ _ _ ⟨rfl, v1, rfl, v2, rfl, v3, rfl, v4, fun z => absurd z hz, fun _ => ⟨⟨rfl, ⟨rfl, rfl⟩, rfl, hCI M L' hR, Or.inr rfl⟩, rfl, rfl, ?_⟩⟩
            intro r μ1 hp
            obtain ⟨v, M1, L1, rfl, rfl, hP1, hn1⟩ := h_literal _ _ _ _ (Or.inr rfl) M L' hR r μ1 hp
            refine ⟨rfl, v1, rfl, v2, rfl, v3, rfl, v4, fun z => absurd z hz, fun _ => ⟨⟨rfl, ⟨rfl, rfl⟩, rfl, hP1, Or.inr rfl⟩, rfl, rfl, ?_⟩⟩
            intro r2 μ2 hp2
            obtain ⟨rfl, M2, L2, rfl, hR2⟩ := hn1 r2 μ2 hp2
            exact ⟨fun _ => nxt M2 L2 hR2, fun z => absurd rfl z⟩
        have q_rule : K 273 [some (.ref 1001), some (.ref 0), some (.ref 109), some (.int (nI i))] [] (131, M, L', TT) := by
          refine hs.go [18, 642] 60 _ _ _ _ ⟨⟨rfl, ⟨rfl, rfl⟩, rfl, hCI M L' hR⟩, rfl, rfl, ?_⟩
          intro r μ1 hp
          obtain ⟨v, M1, L1, rfl, rfl, hP1, hn1⟩ := h_rule  M L' hR r μ1 hp
          refine ⟨⟨rfl, ⟨rfl, rfl⟩, rfl, hP1⟩, rfl, rfl, ?_⟩
          intro r2 μ2 hp2
          obtain ⟨rfl, M2, L2, rfl, hR2⟩ := hn1 r2 μ2 hp2
          exact ⟨fun _ => nxt M2 L2 hR2, fun z => absurd rfl z⟩
        have q_forget : K 286 [some (.ref 1001), some (.ref 0), some (.ref 109), some (.int (nI i))] [] (131, M, L', TT) := by
          refine hs.go [18, 642] 60 _ _ _ _ ⟨rfl, v1, ⟨rfl, ⟨rfl, rfl⟩, rfl, hCI M L' hR⟩, rfl, rfl, ?_⟩
          intro r μ1 hp
          obtain ⟨v, M1, L1, rfl, rfl, hP1, hn1⟩ := h_forget _ M L' hR r μ1 hp
          refine ⟨rfl, v1, ⟨rfl, ⟨rfl, rfl⟩, rfl, hP1⟩, rfl, rfl, ?_⟩
          intro r2 μ2 hp2
          obtain ⟨rfl, M2, L2, rfl, hR2⟩ := hn1 r2 μ2 hp2
          exact ⟨fun _ => nxt M2 L2 hR2, fun z => absurd rfl z⟩
        have q_edit : K 309 [some (.ref 1001), some (.ref 0), some (.ref 109), some (.int (nI i))] [] (131, M, L', TT) := by
          refine hs.go [18, 642] 60 _ _ _ _ ⟨rfl, v1, rfl, v2, rfl, v3, rfl, v4, ⟨rfl, ⟨rfl, rfl⟩, rfl, hCI M L' hR⟩, rfl, rfl, ?_⟩
          intro r μ1 hp
          obtain ⟨v, M1, L1, rfl, rfl, hP1, hn1⟩ := h_edit _ _ _ _ M L' hR r μ1 hp
          refine ⟨rfl, v1, rfl, v2, rfl, v3, rfl, v4, ⟨rfl, ⟨rfl, rfl⟩, rfl, hP1⟩, rfl, rfl, ?_⟩
          intro r2 μ2 hp2
          obtain ⟨rfl, M2, L2, rfl, hR2⟩ := hn1 r2 μ2 hp2
          exact ⟨fun _ => nxt M2 L2 hR2, fun z => absurd rfl z⟩
        have q_holds : K 362 [some (.ref 1001), some (.ref 0), some (.ref 109), some (.int (nI i))] [] (131, M, L', TT) := by
          refine hs.go [18, 642] 60 _ _ _ _ ⟨rfl, v1, rfl, v2, rfl, v3, ⟨rfl, ⟨rfl, rfl⟩, rfl, hCI M L' hR⟩, rfl, rfl, ?_⟩
          intro r μ1 hp
          obtain ⟨v, M1, L1, rfl, rfl, hP1, hn1⟩ := h_holds _ _ _ M L' hR r μ1 hp
          refine ⟨rfl, v1, rfl, v2, rfl, v3, ⟨rfl, ⟨rfl, rfl⟩, rfl, hP1⟩, rfl, rfl, ?_⟩
          intro r2 μ2 hp2
          obtain ⟨rfl, M2, L2, rfl, hR2⟩ := hn1 r2 μ2 hp2
          exact ⟨fun _ => nxt M2 L2 hR2, fun z => absurd rfl z⟩
        have q_size : K 405 [some (.ref 1001), some (.ref 0), some (.ref 109), some (.int (nI i))] [] (131, M, L', TT) := by
          refine hs.go [18, 642] 60 _ _ _ _ ⟨rfl, v1, ⟨rfl, ⟨rfl, rfl⟩, rfl, hCI M L' hR⟩, rfl, rfl, ?_⟩
          intro r μ1 hp
          obtain ⟨v, M1, L1, rfl, rfl, hP1, hn1⟩ := h_size _ M L' hR r μ1 hp
          refine ⟨rfl, v1, ⟨rfl, ⟨rfl, rfl⟩, rfl, hP1⟩, rfl, rfl, ?_⟩
          intro r2 μ2 hp2
          obtain ⟨rfl, M2, L2, rfl, hR2⟩ := hn1 r2 μ2 hp2
          exact ⟨fun _ => nxt M2 L2 hR2, fun z => absurd rfl z⟩
        have q_tuple : K 428 [some (.ref 1001), some (.ref 0), some (.ref 109), some (.int (nI i))] [] (131, M, L', TT) := by
          refine hs.go [18, 642] 60 _ _ _ _ ⟨rfl, v1, rfl, v2, ⟨rfl, ⟨rfl, rfl⟩, rfl, hCI M L' hR⟩, rfl, rfl, ?_⟩
          intro r μ1 hp
          obtain ⟨v, M1, L1, rfl, rfl, hP1, hn1⟩ := h_tuple _ _ M L' hR r μ1 hp
          refine ⟨rfl, v1, rfl, v2, ⟨rfl, ⟨rfl, rfl⟩, rfl, hP1⟩, rfl, rfl, ?_⟩
          intro r2 μ2 hp2
          obtain ⟨rfl, M2, L2, rfl, hR2⟩ := hn1 r2 μ2 hp2
          exact ⟨fun _ => nxt M2 L2 hR2, fun z => absurd rfl z⟩
        have q_ways : K 461 [some (.ref 1001), some (.ref 0), some (.ref 109), some (.int (nI i))] [] (131, M, L', TT) := by
          refine hs.go [18, 642] 60 _ _ _ _ ⟨rfl, v1, rfl, v2, rfl, v3, ⟨rfl, ⟨rfl, rfl⟩, rfl, hCI M L' hR⟩, rfl, rfl, ?_⟩
          intro r μ1 hp
          obtain ⟨v, M1, L1, rfl, rfl, hP1, hn1⟩ := h_ways _ _ _ M L' hR r μ1 hp
          refine ⟨rfl, v1, rfl, v2, rfl, v3, ⟨rfl, ⟨rfl, rfl⟩, rfl, hP1⟩, rfl, rfl, ?_⟩
          intro r2 μ2 hp2
          obtain ⟨rfl, M2, L2, rfl, hR2⟩ := hn1 r2 μ2 hp2
          exact ⟨fun _ => nxt M2 L2 hR2, fun z => absurd rfl z⟩
        have q_stratum : K 504 [some (.ref 1001), some (.ref 0), some (.ref 109), some (.int (nI i))] [] (131, M, L', TT) := by
          refine hs.go [18, 642] 60 _ _ _ _ ⟨rfl, v1, ⟨rfl, ⟨rfl, rfl⟩, rfl, hCI M L' hR⟩, rfl, rfl, ?_⟩
          intro r μ1 hp
          obtain ⟨v, M1, L1, rfl, rfl, hP1, hn1⟩ := h_stratum _ M L' hR r μ1 hp
          refine ⟨rfl, v1, ⟨rfl, ⟨rfl, rfl⟩, rfl, hP1⟩, rfl, rfl, ?_⟩
          intro r2 μ2 hp2
          obtain ⟨rfl, M2, L2, rfl, hR2⟩ := hn1 r2 μ2 hp2
          exact ⟨fun _ => nxt M2 L2 hR2, fun z => absurd rfl z⟩
        have q_line : K 527 [some (.ref 1001), some (.ref 0), some (.ref 109), some (.int (nI i))] [] (131, M, L', TT) := by
          refine hs.go [18, 642] 60 _ _ _ _ ⟨rfl, v1, rfl, v2, rfl, v3, ⟨rfl, ⟨rfl, rfl⟩, rfl, hCI M L' hR⟩, rfl, rfl, ?_⟩
          intro r μ1 hp
          obtain ⟨v, M1, L1, rfl, rfl, hP1, hn1⟩ := h_line _ _ _ M L' hR r μ1 hp
          refine ⟨rfl, v1, rfl, v2, rfl, v3, ⟨rfl, ⟨rfl, rfl⟩, rfl⟩, rfl, rfl, ?_⟩
          intro r2 μ2 hp2
          obtain ⟨rfl, M2, L2, rfl, hR2⟩ := hn1 r2 μ2 hp2
          exact ⟨fun _ => nxt M2 L2 hR2, fun z => absurd rfl z⟩
        have q_changes : K 570 [some (.ref 1001), some (.ref 0), some (.ref 109), some (.int (nI i))] [] (131, M, L', TT) := by
          refine hs.go [18, 642] 60 _ _ _ _ ⟨⟨rfl, ⟨rfl, rfl⟩, rfl, hCI M L' hR⟩, rfl, rfl, ?_⟩
          intro r μ1 hp
          obtain ⟨v, M1, L1, rfl, rfl, hP1, hn1⟩ := h_changes  M L' hR r μ1 hp
          refine ⟨⟨rfl, ⟨rfl, rfl⟩, rfl, hP1⟩, rfl, rfl, ?_⟩
          intro r2 μ2 hp2
          obtain ⟨rfl, M2, L2, rfl, hR2⟩ := hn1 r2 μ2 hp2
          exact ⟨fun _ => nxt M2 L2 hR2, fun z => absurd rfl z⟩
        have q_step : K 583 [some (.ref 1001), some (.ref 0), some (.ref 109), some (.int (nI i))] [] (131, M, L', TT) := by
          refine hs.go [18, 642] 60 _ _ _ _ ⟨rfl, v1, ⟨rfl, ⟨rfl, rfl⟩, rfl, hCI M L' hR⟩, rfl, rfl, ?_⟩
          intro r μ1 hp
          obtain ⟨v, M1, L1, rfl, rfl, hP1, hn1⟩ := h_step _ M L' hR r μ1 hp
          refine ⟨rfl, v1, ⟨rfl, ⟨rfl, rfl⟩, rfl, hP1⟩, rfl, rfl, ?_⟩
          intro r2 μ2 hp2
          obtain ⟨rfl, M2, L2, rfl, hR2⟩ := hn1 r2 μ2 hp2
          exact ⟨fun _ => nxt M2 L2 hR2, fun z => absurd rfl z⟩
        have q_site : K 606 [some (.ref 1001), some (.ref 0), some (.ref 109), some (.int (nI i))] [] (131, M, L', TT) := by
          refine hs.go [18, 642] 60 _ _ _ _ ⟨rfl, v1, ⟨rfl, ⟨rfl, rfl⟩, rfl, hCI M L' hR⟩, rfl, rfl, ?_⟩
          intro r μ1 hp
          obtain ⟨v, M1, L1, rfl, rfl, hP1, hn1⟩ := h_site _ M L' hR r μ1 hp
          refine ⟨rfl, v1, ⟨rfl, ⟨rfl, rfl⟩, rfl, hP1⟩, rfl, rfl, ?_⟩
          intro r2 μ2 hp2
          obtain ⟨rfl, M2, L2, rfl, hR2⟩ := hn1 r2 μ2 hp2
          exact ⟨fun _ => nxt M2 L2 hR2, fun z => absurd rfl z⟩
        have q_objects : K 629 [some (.ref 1001), some (.ref 0), some (.ref 109), some (.int (nI i))] [] (131, M, L', TT) := by
          refine hs.go [18, 642] 60 _ _ _ _ ⟨⟨rfl, ⟨rfl, rfl⟩, rfl, hCI M L' hR⟩, rfl, rfl, ?_⟩
          intro r μ1 hp
          obtain ⟨v, M1, L1, rfl, rfl, hP1, hn1⟩ := h_objects  M L' hR r μ1 hp
          refine ⟨⟨rfl, ⟨rfl, rfl⟩, rfl, hP1⟩, rfl, rfl, ?_⟩
          intro r2 μ2 hp2
          obtain ⟨rfl, M2, L2, rfl, hR2⟩ := hn1 r2 μ2 hp2
          exact ⟨fun _ => nxt M2 L2 hR2, fun z => absurd rfl z⟩
        exact hs.go [18, 642, 112, 135, 204, 273, 286, 309, 362, 405, 428, 461, 504, 527, 570, 583, 606, 629] 20 _ _ _ _ ⟨rfl, fun z => absurd z hg, fun _ => ⟨rfl, v0, ⟨fun _ => q_relation, fun _ => ⟨fun _ => q_fact, fun _ => ⟨fun _ => q_literal, fun _ => ⟨fun _ => q_rule, fun _ => ⟨fun _ => q_forget, fun _ => ⟨fun _ => q_edit, fun _ => ⟨fun _ => q_holds, fun _ => ⟨fun _ => q_size, fun _ => ⟨fun _ => q_tuple, fun _ => ⟨fun _ => q_ways, fun _ => ⟨fun _ => q_stratum, fun _ => ⟨fun _ => q_line, fun _ => ⟨fun _ => q_changes, fun _ => ⟨fun _ => q_step, fun _ => ⟨fun _ => q_site, fun _ => ⟨fun _ => q_objects, fun _ => nxt M L' hR⟩⟩⟩⟩⟩⟩⟩⟩⟩⟩⟩⟩⟩⟩⟩⟩⟩⟩
  refine hs.go [18] 40 _ _ _ _ ⟨Nat.le_of_ble_eq_true rfl, rfl, ⟨rfl, rfl, _, _, _, rfl⟩, rfl, rfl, ?_⟩
  rintro _ _ ⟨rfl, rfl⟩
  refine ⟨Nat.le_of_ble_eq_true rfl, rfl, ⟨rfl, rfl, rfl⟩, rfl, rfl, ?_⟩
  rintro _ _ ⟨rfl, rfl⟩
  exact loop 512 0 (by omega) (by omega) MI LI0 h00
/-- from the entry, for every script, the law comes to its end with true: if there is such an invariant -/
theorem lw_whole {RI : mM → mL → Prop} (hH : LawH RI) {p : Program} {e : Env} {s : State} {m : MethodId} {below : List Frame} {meth : Method} {c : Code} (l : Launch) {b L : Nat} {xs : Nat → Int32} (hL : L ≤ 2560) (C0 : lw_At p s m meth c b L xs) : W p l e room_1 s m #[Value.ref b] below meth c s.heap [] 0 0 (lw_Z below #[Value.ref b] s) (entryFrame m ([Value.ref b] : List Value).toArray 4) :=
  ky_law C0 (cs_LW_law l) (fun K hs hcv => lw_body hH hL K hs hcv)
