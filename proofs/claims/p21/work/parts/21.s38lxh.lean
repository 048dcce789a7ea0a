/-! THE LAW'S HELPERS: their entries, numbers and handlers; printed by wip/whole/gen_lx.py -/
set_option maxRecDepth 20000 in
theorem sx_m_L_type : am_tab[am_i_L_type]? = some am_m_L_type := rfl
set_option maxRecDepth 20000 in
theorem sx_m_L_keep : am_tab[am_i_L_keep]? = some am_m_L_keep := rfl
set_option maxRecDepth 20000 in
theorem sx_m_L_typed : am_tab[am_i_L_typed]? = some am_m_L_typed := rfl
set_option maxRecDepth 20000 in
theorem sx_m_L_come : am_tab[am_i_L_come]? = some am_m_L_come := rfl
set_option maxRecDepth 20000 in
theorem sx_m_L_go : am_tab[am_i_L_go]? = some am_m_L_go := rfl
set_option maxRecDepth 20000 in
theorem sx_m_L_name : am_tab[am_i_L_name]? = some am_m_L_name := rfl
set_option maxRecDepth 20000 in
theorem sx_m_L_byteAt : am_tab[am_i_L_byteAt]? = some am_m_L_byteAt := rfl
set_option maxRecDepth 20000 in
theorem sx_m_L_child : am_tab[am_i_L_child]? = some am_m_L_child := rfl
set_option maxRecDepth 20000 in
theorem sx_m_L_write : am_tab[am_i_L_write]? = some am_m_L_write := rfl
set_option maxRecDepth 20000 in
theorem sx_m_L_read : am_tab[am_i_L_read]? = some am_m_L_read := rfl
set_option maxRecDepth 20000 in
theorem sx_m_L_fault : am_tab[am_i_L_fault]? = some am_m_L_fault := rfl
set_option maxRecDepth 20000 in
theorem sx_m_L_feed : am_tab[am_i_L_feed]? = some am_m_L_feed := rfl
set_option maxRecDepth 20000 in
theorem sx_m_L_end : am_tab[am_i_L_end]? = some am_m_L_end := rfl
set_option maxRecDepth 20000 in
theorem sx_m_L_poke : am_tab[am_i_L_poke]? = some am_m_L_poke := rfl
set_option maxRecDepth 20000 in
theorem sx_m_L_at : am_tab[am_i_L_at]? = some am_m_L_at := rfl
set_option maxRecDepth 20000 in
theorem sx_m_L_count : am_tab[am_i_L_count]? = some am_m_L_count := rfl
noncomputable def lx_hq (e : Nat × Nat × List (Nat × Nat × Nat × Nat)) : Prop := ∃ M, am_tab[e.2.1]? = some M ∧ Cond.methodLink "ArchiveShelfLaw" e.1 M.2.2.2.1 ∈ lw_tbl ∧ Cond.static M.2.2.2.1 ∈ lw_tbl ∧ Cond.initialized M.2.2.2.1.cls ∈ lw_tbl ∧ Cond.codeWith M.2.2.2.1 M.2.1 M.1.2.1 M.2.2.1 e.2.2 ∈ lw_tbl ∧ plainName M.2.2.2.1.cls = true ∧ M.1.1 = 13 ∧ M.2.2.1 = some .int ∧ (M.2.2.2.1.cls ≠ "java/lang/invoke/MethodHandle" ∧ M.2.2.2.1.cls ≠ "java/lang/invoke/VarHandle" ∧ (parseMethodDescriptor M.2.2.2.1.desc).map (fun d => d.parameters.length) = some M.2.2.2.2) ∧ (M.1.2.2.2.1 + 1 ≤ 12 ∧ 8 + (M.1.2.1 + 11) + M.1.2.2.2.2.1 ≤ 506)
theorem lx_e_type : lx_hq (78, am_i_L_type, [(0, 11, 14, 13), (0, 11, 18, 15)]) := ⟨am_m_L_type, sx_m_L_type, am_tb3 (List.mem_of_getElem? (i := 74) rfl), am_tb3 (List.mem_of_getElem? (i := 75) rfl), am_tb1 (List.mem_of_getElem? (i := 0) rfl), am_tb3 (List.mem_of_getElem? (i := 76) rfl), by decide +kernel, rfl, rfl, ⟨by decide +kernel, by decide +kernel, by decide +kernel⟩, by decide, by decide⟩
theorem lx_e_keep : lx_hq (84, am_i_L_keep, [(0, 5, 8, 13)]) := ⟨am_m_L_keep, sx_m_L_keep, am_tb3 (List.mem_of_getElem? (i := 172) rfl), am_tb3 (List.mem_of_getElem? (i := 173) rfl), am_tb1 (List.mem_of_getElem? (i := 0) rfl), am_tb3 (List.mem_of_getElem? (i := 174) rfl), by decide +kernel, rfl, rfl, ⟨by decide +kernel, by decide +kernel, by decide +kernel⟩, by decide, by decide⟩
theorem lx_e_typed : lx_hq (88, am_i_L_typed, [(0, 9, 12, 25)]) := ⟨am_m_L_typed, sx_m_L_typed, am_tb3 (List.mem_of_getElem? (i := 180) rfl), am_tb3 (List.mem_of_getElem? (i := 181) rfl), am_tb1 (List.mem_of_getElem? (i := 0) rfl), am_tb3 (List.mem_of_getElem? (i := 182) rfl), by decide +kernel, rfl, rfl, ⟨by decide +kernel, by decide +kernel, by decide +kernel⟩, by decide, by decide⟩
theorem lx_e_come : lx_hq (92, am_i_L_come, [(0, 10, 13, 13), (0, 10, 17, 31), (0, 10, 21, 15)]) := ⟨am_m_L_come, sx_m_L_come, am_tb3 (List.mem_of_getElem? (i := 208) rfl), am_tb3 (List.mem_of_getElem? (i := 209) rfl), am_tb1 (List.mem_of_getElem? (i := 0) rfl), am_tb3 (List.mem_of_getElem? (i := 210) rfl), by decide +kernel, rfl, rfl, ⟨by decide +kernel, by decide +kernel, by decide +kernel⟩, by decide, by decide⟩
theorem lx_e_go : lx_hq (96, am_i_L_go, [(0, 9, 12, 25)]) := ⟨am_m_L_go, sx_m_L_go, am_tb4 (List.mem_of_getElem? (i := 24) rfl), am_tb4 (List.mem_of_getElem? (i := 25) rfl), am_tb1 (List.mem_of_getElem? (i := 0) rfl), am_tb4 (List.mem_of_getElem? (i := 26) rfl), by decide +kernel, rfl, rfl, ⟨by decide +kernel, by decide +kernel, by decide +kernel⟩, by decide, by decide⟩
theorem lx_e_name : lx_hq (99, am_i_L_name, [(0, 10, 13, 25)]) := ⟨am_m_L_name, sx_m_L_name, am_tb4 (List.mem_of_getElem? (i := 33) rfl), am_tb4 (List.mem_of_getElem? (i := 34) rfl), am_tb1 (List.mem_of_getElem? (i := 0) rfl), am_tb4 (List.mem_of_getElem? (i := 35) rfl), by decide +kernel, rfl, rfl, ⟨by decide +kernel, by decide +kernel, by decide +kernel⟩, by decide, by decide⟩
theorem lx_e_byteAt : lx_hq (103, am_i_L_byteAt, [(0, 10, 13, 25)]) := ⟨am_m_L_byteAt, sx_m_L_byteAt, am_tb4 (List.mem_of_getElem? (i := 41) rfl), am_tb4 (List.mem_of_getElem? (i := 42) rfl), am_tb1 (List.mem_of_getElem? (i := 0) rfl), am_tb4 (List.mem_of_getElem? (i := 43) rfl), by decide +kernel, rfl, rfl, ⟨by decide +kernel, by decide +kernel, by decide +kernel⟩, by decide, by decide⟩
theorem lx_e_child : lx_hq (111, am_i_L_child, [(0, 10, 13, 25)]) := ⟨am_m_L_child, sx_m_L_child, am_tb4 (List.mem_of_getElem? (i := 49) rfl), am_tb4 (List.mem_of_getElem? (i := 50) rfl), am_tb1 (List.mem_of_getElem? (i := 0) rfl), am_tb4 (List.mem_of_getElem? (i := 51) rfl), by decide +kernel, rfl, rfl, ⟨by decide +kernel, by decide +kernel, by decide +kernel⟩, by decide, by decide⟩
theorem lx_e_write : lx_hq (114, am_i_L_write, [(0, 10, 13, 13)]) := ⟨am_m_L_write, sx_m_L_write, am_tb4 (List.mem_of_getElem? (i := 83) rfl), am_tb4 (List.mem_of_getElem? (i := 84) rfl), am_tb1 (List.mem_of_getElem? (i := 0) rfl), am_tb4 (List.mem_of_getElem? (i := 85) rfl), by decide +kernel, rfl, rfl, ⟨by decide +kernel, by decide +kernel, by decide +kernel⟩, by decide, by decide⟩
theorem lx_e_read : lx_hq (117, am_i_L_read, [(0, 9, 12, 13)]) := ⟨am_m_L_read, sx_m_L_read, am_tb5 (List.mem_of_getElem? (i := 43) rfl), am_tb5 (List.mem_of_getElem? (i := 44) rfl), am_tb1 (List.mem_of_getElem? (i := 0) rfl), am_tb5 (List.mem_of_getElem? (i := 45) rfl), by decide +kernel, rfl, rfl, ⟨by decide +kernel, by decide +kernel, by decide +kernel⟩, by decide, by decide⟩
theorem lx_e_fault : lx_hq (120, am_i_L_fault, [(0, 9, 12, 25)]) := ⟨am_m_L_fault, sx_m_L_fault, am_tb6 (List.mem_of_getElem? (i := 8) rfl), am_tb6 (List.mem_of_getElem? (i := 9) rfl), am_tb1 (List.mem_of_getElem? (i := 0) rfl), am_tb6 (List.mem_of_getElem? (i := 10) rfl), by decide +kernel, rfl, rfl, ⟨by decide +kernel, by decide +kernel, by decide +kernel⟩, by decide, by decide⟩
theorem lx_e_feed : lx_hq (135, am_i_L_feed, [(0, 16, 19, 15)]) := ⟨am_m_L_feed, sx_m_L_feed, am_tb6 (List.mem_of_getElem? (i := 24) rfl), am_tb6 (List.mem_of_getElem? (i := 25) rfl), am_tb1 (List.mem_of_getElem? (i := 0) rfl), am_tb6 (List.mem_of_getElem? (i := 26) rfl), by decide +kernel, rfl, rfl, ⟨by decide +kernel, by decide +kernel, by decide +kernel⟩, by decide, by decide⟩
theorem lx_e_end : lx_hq (139, am_i_L_end, [(0, 5, 8, 13)]) := ⟨am_m_L_end, sx_m_L_end, am_tb6 (List.mem_of_getElem? (i := 32) rfl), am_tb6 (List.mem_of_getElem? (i := 33) rfl), am_tb1 (List.mem_of_getElem? (i := 0) rfl), am_tb6 (List.mem_of_getElem? (i := 34) rfl), by decide +kernel, rfl, rfl, ⟨by decide +kernel, by decide +kernel, by decide +kernel⟩, by decide, by decide⟩
theorem lx_e_poke : lx_hq (142, am_i_L_poke, [(0, 10, 13, 25), (0, 10, 17, 13)]) := ⟨am_m_L_poke, sx_m_L_poke, am_tb6 (List.mem_of_getElem? (i := 40) rfl), am_tb6 (List.mem_of_getElem? (i := 41) rfl), am_tb1 (List.mem_of_getElem? (i := 0) rfl), am_tb6 (List.mem_of_getElem? (i := 42) rfl), by decide +kernel, rfl, rfl, ⟨by decide +kernel, by decide +kernel, by decide +kernel⟩, by decide, by decide⟩
theorem lx_e_at : lx_hq (145, am_i_L_at, [(0, 9, 12, 13), (0, 9, 16, 25)]) := ⟨am_m_L_at, sx_m_L_at, am_tb6 (List.mem_of_getElem? (i := 50) rfl), am_tb6 (List.mem_of_getElem? (i := 51) rfl), am_tb1 (List.mem_of_getElem? (i := 0) rfl), am_tb6 (List.mem_of_getElem? (i := 52) rfl), by decide +kernel, rfl, rfl, ⟨by decide +kernel, by decide +kernel, by decide +kernel⟩, by decide, by decide⟩
theorem lx_e_count : lx_hq (148, am_i_L_count, [(0, 9, 12, 25)]) := ⟨am_m_L_count, sx_m_L_count, am_tb6 (List.mem_of_getElem? (i := 58) rfl), am_tb6 (List.mem_of_getElem? (i := 59) rfl), am_tb1 (List.mem_of_getElem? (i := 0) rfl), am_tb6 (List.mem_of_getElem? (i := 60) rfl), by decide +kernel, rfl, rfl, ⟨by decide +kernel, by decide +kernel, by decide +kernel⟩, by decide, by decide⟩
noncomputable def lx_hp : List (Nat × Nat × List (Nat × Nat × Nat × Nat)) := [(78, am_i_L_type, [(0, 11, 14, 13), (0, 11, 18, 15)]), (84, am_i_L_keep, [(0, 5, 8, 13)]), (88, am_i_L_typed, [(0, 9, 12, 25)]), (92, am_i_L_come, [(0, 10, 13, 13), (0, 10, 17, 31), (0, 10, 21, 15)]), (96, am_i_L_go, [(0, 9, 12, 25)]), (99, am_i_L_name, [(0, 10, 13, 25)]), (103, am_i_L_byteAt, [(0, 10, 13, 25)]), (111, am_i_L_child, [(0, 10, 13, 25)]), (114, am_i_L_write, [(0, 10, 13, 13)]), (117, am_i_L_read, [(0, 9, 12, 13)]), (120, am_i_L_fault, [(0, 9, 12, 25)]), (135, am_i_L_feed, [(0, 16, 19, 15)]), (139, am_i_L_end, [(0, 5, 8, 13)]), (142, am_i_L_poke, [(0, 10, 13, 25), (0, 10, 17, 13)]), (145, am_i_L_at, [(0, 9, 12, 13), (0, 9, 16, 25)]), (148, am_i_L_count, [(0, 9, 12, 25)])]
theorem lx_hp_ok : ∀ e ∈ lx_hp, lx_hq e := List.forall_mem_cons.mpr ⟨lx_e_type, List.forall_mem_cons.mpr ⟨lx_e_keep, List.forall_mem_cons.mpr ⟨lx_e_typed, List.forall_mem_cons.mpr ⟨lx_e_come, List.forall_mem_cons.mpr ⟨lx_e_go, List.forall_mem_cons.mpr ⟨lx_e_name, List.forall_mem_cons.mpr ⟨lx_e_byteAt, List.forall_mem_cons.mpr ⟨lx_e_child, List.forall_mem_cons.mpr ⟨lx_e_write, List.forall_mem_cons.mpr ⟨lx_e_read, List.forall_mem_cons.mpr ⟨lx_e_fault, List.forall_mem_cons.mpr ⟨lx_e_feed, List.forall_mem_cons.mpr ⟨lx_e_end, List.forall_mem_cons.mpr ⟨lx_e_poke, List.forall_mem_cons.mpr ⟨lx_e_at, List.forall_mem_cons.mpr ⟨lx_e_count, fun _ h => absurd h List.not_mem_nil⟩⟩⟩⟩⟩⟩⟩⟩⟩⟩⟩⟩⟩⟩⟩⟩
