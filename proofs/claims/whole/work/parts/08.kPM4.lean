theorem e_PM_objects_0 : okE R_PM 0 b_PM_objects (0, (.aload_n 0, 1, 0, 0, 0, 0, 0, [])) := ⟨by decide +kernel, rfl, rfl⟩
theorem e_PM_objects_1 : okE R_PM 0 b_PM_objects (1, (.getfield 167, 4, 0, 0, 8, 19, 0, [])) := ⟨by decide +kernel, rfl, ⟨_, _, _, rfl, by decide, wf_PM_167, rfl, rfl⟩⟩
theorem e_PM_objects_4 : okE R_PM 0 b_PM_objects (4, (.ireturn, 5, 0, 0, 0, 0, 0, [])) := ⟨by decide +kernel, rfl, trivial⟩
def k_PM_objects : List (Nat × En) := [(0, (.aload_n 0, 1, 0, 0, 0, 0, 0, [])), (1, (.getfield 167, 4, 0, 0, 8, 19, 0, [])), (4, (.ireturn, 5, 0, 0, 0, 0, 0, []))]
set_option maxRecDepth 100000 in
theorem ok_PM_objects : ∀ x ∈ k_PM_objects, okE R_PM 0 b_PM_objects x := fc e_PM_objects_0 (fc e_PM_objects_1 (fc e_PM_objects_4 (fun _ h => absurd h List.not_mem_nil)))
theorem rt_PM_objects : ∀ x ∈ k_PM_objects, okR 0 x.2.1 = true := by decide +kernel
