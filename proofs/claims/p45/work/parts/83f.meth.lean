/-! methods, 5 -/
theorem hd_X12_lost : yX12_lost.cls ≠ "java/lang/invoke/MethodHandle" ∧ yX12_lost.cls ≠ "java/lang/invoke/VarHandle" ∧ (parseMethodDescriptor yX12_lost.desc).map (fun d => d.parameters.length) = some 0 := ⟨by decide, by decide, by decide +kernel⟩
theorem he_X12_lost : yX12_lost.cls ≠ "java/lang/invoke/MethodHandle" ∧ yX12_lost.cls ≠ "java/lang/invoke/VarHandle" ∧ (parseMethodDescriptor yX12_lost.desc).map (fun d => d.parameters.length + 1) = some 1 := ⟨by decide, by decide, by decide +kernel⟩
theorem pn_X12_lost : plainFor yX12_lost = true := by decide +kernel
def K_X12_lost : ck_cd := [(0, .ldc2_w 140, 3), (3, .lreturn, 1)]
theorem k_X12_lost : ∀ x ∈ K_X12_lost, decode cX12_lost x.1 = .ok (x.2.1, x.2.2) := by decide +kernel
def C_X12_lost : ck_C := (([], [], [(0, 0)], []), [([(1, 1, [])], [], [(1, 0), ((-9223372036854775808), (-9223372036854775808))], [])], [], 0, 0)
def M_X12_lost : ck_Me := (4, cw_TT, cw_SG, 0, fl_X12, pl_X12, nw_X12, kl_X12, il_X12, xl_X12, cw_al, [], [], (0, 0), gl_X12)
def I_X12_lost : List (Nat × ck_I) := []
def S_X12_lost : ck_S := ([], [], [(0, 1000, (8, 0, []))], [(0, 0)], [], 0, 0)
theorem h_X12_lost : ck_chk M_X12_lost (ck_kr (mF M_X12_lost) 1 3 C_X12_lost) K_X12_lost I_X12_lost 1 7 S_X12_lost = true := by decide +kernel
theorem o_X12_lost : ck_ok5 C_X12_lost = true := by decide +kernel
theorem a_X12_lost : ck_ca cw_V RX12 cX12_lost ⟨0, 0, 0, 0⟩ M_X12_lost := fun _ _ _ _ _ _ _ _ _ _ _ _ _ _ _ _ _ _ _ _ h => absurd h List.not_mem_nil
theorem t_X12_lost (l : Launch) : ck_met cw_V l yX12_lost cX12_lost 0 (some .long) ⟨0, 0, 0, 0⟩ C_X12_lost :=
  ck_meth (M := M_X12_lost) (rt := 3) (pre := []) false pn_X12_lost rfl (fun h => by cases h) ⟨rfl, rfl, rfl, rfl, rfl⟩ ⟨rfl, rfl⟩ rfl (by decide) (by decide) (by decide) k_X12_lost (tb_X12 ⟨rfl, rfl, rfl, rfl, rfl, rfl, rfl, rfl, rfl⟩) a_X12_lost h_X12_lost rfl
theorem hd_X12_failedLong : yX12_failedLong.cls ≠ "java/lang/invoke/MethodHandle" ∧ yX12_failedLong.cls ≠ "java/lang/invoke/VarHandle" ∧ (parseMethodDescriptor yX12_failedLong.desc).map (fun d => d.parameters.length) = some 1 := ⟨by decide, by decide, by decide +kernel⟩
theorem he_X12_failedLong : yX12_failedLong.cls ≠ "java/lang/invoke/MethodHandle" ∧ yX12_failedLong.cls ≠ "java/lang/invoke/VarHandle" ∧ (parseMethodDescriptor yX12_failedLong.desc).map (fun d => d.parameters.length + 1) = some 2 := ⟨by decide, by decide, by decide +kernel⟩
theorem pn_X12_failedLong : plainFor yX12_failedLong = true := by decide +kernel
def K_X12_failedLong : ck_cd := [(0, .aload_n 0, 1), (1, .iload_n 1, 1), (2, .putfield 142, 3), (5, .invokestatic 145, 3), (8, .lreturn, 1)]
theorem k_X12_failedLong : ∀ x ∈ K_X12_failedLong, decode cX12_failedLong x.1 = .ok (x.2.1, x.2.2) := by decide +kernel
def C_X12_failedLong : ck_C := (([(2, 1, [17]), (0, 2, [])], [], [(0, 0), (1, 0), (0, 3)], []), [([(1, 3, [])], [], [(1, 0), (1, 0), (1, 0), ((-9223372036854775808), (-9223372036854775808))], [])], [(17, 0)], 0, 0)
def M_X12_failedLong : ck_Me := (4, cw_TT, cw_SG, 2, fl_X12, pl_X12, nw_X12, kl_X12, il_X12, xl_X12, cw_al, [(3 * 145 + 1, 0, 0, C_X12_lost)], [(17, 0)], (0, 0), gl_X12)
def I_X12_failedLong : List (Nat × ck_I) := []
def S_X12_failedLong : ck_S := ([(0, (2, 1, [17])), (1, (0, 2, []))], [], [(0, 1000, (8, 0, [])), (0, 1001, (8, 1, [])), (0, 1002, (8, 2, []))], [(0, 0), (1, 0), (0, 3)], [], 0, 0)
theorem h_X12_failedLong : ck_chk M_X12_failedLong (ck_kr (mF M_X12_failedLong) 3 3 C_X12_failedLong) K_X12_failedLong I_X12_failedLong 3 10 S_X12_failedLong = true := by decide +kernel
theorem o_X12_failedLong : ck_ok5 C_X12_failedLong = true := by decide +kernel
theorem a_X12_failedLong : ck_ca cw_V RX12 cX12_failedLong ⟨1, 0, 0, 19⟩ M_X12_failedLong := fun _ l _ _ _ _ _ _ _ _ _ _ _ _ X hts htl hsw hnq =>
  (List.forall_mem_cons.mpr ⟨ck_cs_S (t_X12_lost l) X hts htl hsw hnq ⟨rfl, rfl⟩ o_X12_lost cw_good (ck_m4 tw_1964 tw_1965 tw_104 tw_1966) hd_X12_lost ⟨rfl, rfl⟩ ⟨by decide, by decide⟩, (fun _ h => absurd h List.not_mem_nil)⟩)
theorem t_X12_failedLong (l : Launch) : ck_met cw_V l yX12_failedLong cX12_failedLong 2 (some .long) ⟨1, 0, 0, 19⟩ C_X12_failedLong :=
  ck_meth (M := M_X12_failedLong) (rt := 3) (pre := []) false pn_X12_failedLong rfl (fun h => by cases h) ⟨rfl, rfl, rfl, rfl, rfl⟩ ⟨rfl, rfl⟩ rfl (by decide) (by decide) (by decide) k_X12_failedLong (tb_X12 ⟨rfl, rfl, rfl, rfl, rfl, rfl, rfl, rfl, rfl⟩) a_X12_failedLong h_X12_failedLong rfl
theorem hd_X12_cell : yX12_cell.cls ≠ "java/lang/invoke/MethodHandle" ∧ yX12_cell.cls ≠ "java/lang/invoke/VarHandle" ∧ (parseMethodDescriptor yX12_cell.desc).map (fun d => d.parameters.length) = some 3 := ⟨by decide, by decide, by decide +kernel⟩
theorem he_X12_cell : yX12_cell.cls ≠ "java/lang/invoke/MethodHandle" ∧ yX12_cell.cls ≠ "java/lang/invoke/VarHandle" ∧ (parseMethodDescriptor yX12_cell.desc).map (fun d => d.parameters.length + 1) = some 4 := ⟨by decide, by decide, by decide +kernel⟩
theorem pn_X12_cell : plainFor yX12_cell = true := by decide +kernel
def K_X12_cell : ck_cd := [(0, .aload_n 0, 1), (1, .iconst 0, 1), (2, .putfield 142, 3), (5, .iload_n 1, 1), (6, .invokestatic 201, 3), (9, .ifCond .ne 15, 3), (12, .iload_n 3, 1), (13, .i2l, 1), (14, .lconst 0, 1), (15, .ldc2_w 208, 3), (18, .invokestatic 152, 3), (21, .ifCond .ne 7, 3), (24, .invokestatic 145, 3), (27, .lreturn, 1), (28, .aload_n 0, 1), (29, .getfield 124, 3), (32, .iload_n 1, 1), (33, .iaload, 1), (34, .ifCond .lt 19, 3), (37, .aload_n 0, 1), (38, .getfield 127, 3), (41, .iload_n 1, 1), (42, .iaload, 1), (43, .iload_n 3, 1), (44, .if_icmp .eq 9, 3), (47, .aload_n 0, 1), (48, .iconst 2, 1), (49, .invokevirtual 486, 3), (52, .lreturn, 1), (53, .aload_n 0, 1), (54, .iload_n 1, 1), (55, .iload_n 2, 1), (56, .invokevirtual 483, 3), (59, .ifCond .le 16, 3), (62, .aload_n 0, 1), (63, .aload_n 0, 1), (64, .iload_n 1, 1), (65, .iload_n 2, 1), (66, .invokevirtual 483, 3), (69, .invokevirtual 486, 3), (72, .goto 15, 3), (75, .aload_n 0, 1), (76, .getfield 130, 3), (79, .bipush 60, 2), (81, .iload_n 1, 1), (82, .imul, 1), (83, .iload_n 2, 1), (84, .iadd, 1), (85, .iaload, 1), (86, .i2l, 1), (87, .lreturn, 1)]
theorem k_X12_cell : ∀ x ∈ K_X12_cell, decode cX12_cell x.1 = .ok (x.2.1, x.2.2) := by decide +kernel
def C_X12_cell : ck_C := (([(2, 1, [17]), (0, 2, []), (0, 3, []), (0, 4, [])], [], [(0, 0), (1, 0), ((-2147483648), 2147483647), ((-2147483648), 2147483647), ((-2147483648), 2147483647)], []), [([(1, 5, [])], [], [(1, 0), (1, 0), (1, 0), (1, 0), (1, 0), ((-9223372036854775808), 2147483647)], [])], [(17, 0)], 0, 0)
def M_X12_cell : ck_Me := (4, cw_TT, cw_SG, 4, fl_X12, pl_X12, nw_X12, kl_X12, il_X12, xl_X12, cw_al, [(3 * 145 + 1, 0, 0, C_X12_lost), (3 * 152 + 1, 0, 3, C_X12_in), (3 * 201 + 1, 0, 1, C_X12_noSheet), (3 * 483, 17, 3, C_X12_noCell), (3 * 486, 17, 2, C_X12_failedLong)], [(17, 0)], (0, 0), gl_X12)
def I_X12_cell : List (Nat × ck_I) := []
def S_X12_cell : ck_S := ([(0, (2, 1, [17])), (1, (0, 2, [])), (2, (0, 3, [])), (3, (0, 4, []))], [], [(0, 1000, (8, 0, [])), (0, 1001, (8, 1, [])), (0, 1002, (8, 2, [])), (0, 1003, (8, 3, [])), (0, 1004, (8, 4, []))], [(0, 0), (1, 0), ((-2147483648), 2147483647), ((-2147483648), 2147483647), ((-2147483648), 2147483647)], [], 0, 0)
theorem h_X12_cell : ck_chk M_X12_cell (ck_kr (mF M_X12_cell) 5 3 C_X12_cell) K_X12_cell I_X12_cell 5 56 S_X12_cell = true := by decide +kernel
theorem o_X12_cell : ck_ok5 C_X12_cell = true := by decide +kernel
theorem a_X12_cell : ck_ca cw_V RX12 cX12_cell ⟨2, 0, 0, 47⟩ M_X12_cell := fun _ l _ _ _ _ _ _ _ _ _ _ _ _ X hts htl hsw hnq =>
  (List.forall_mem_cons.mpr ⟨ck_cs_S (t_X12_lost l) X hts htl hsw hnq ⟨rfl, rfl⟩ o_X12_lost cw_good (ck_m4 tw_1964 tw_1965 tw_104 tw_1966) hd_X12_lost ⟨rfl, rfl⟩ ⟨by decide, by decide⟩, (List.forall_mem_cons.mpr ⟨ck_cs_S (t_X12_in l) X hts htl hsw hnq ⟨rfl, rfl⟩ o_X12_in cw_good (ck_m4 tw_1485 tw_1486 tw_104 tw_1487) hd_X12_in ⟨rfl, rfl⟩ ⟨by decide, by decide⟩, (List.forall_mem_cons.mpr ⟨ck_cs_S (t_X12_noSheet l) X hts htl hsw hnq ⟨rfl, rfl⟩ o_X12_noSheet cw_good (ck_m4 tw_1481 tw_1482 tw_104 tw_1483) hd_X12_noSheet ⟨rfl, rfl⟩ ⟨by decide, by decide⟩, (List.forall_mem_cons.mpr ⟨ck_cs_V (t_X12_noCell l) X hts htl hsw hnq ⟨rfl, rfl⟩ o_X12_noCell cw_good (ck_m5 tw_1956 tw_1958 tw_92 tw_104 tw_1959) (by decide) rfl rfl rfl he_X12_noCell ⟨rfl, rfl⟩ ⟨by decide, by decide⟩, (List.forall_mem_cons.mpr ⟨ck_cs_V (t_X12_failedLong l) X hts htl hsw hnq ⟨rfl, rfl⟩ o_X12_failedLong cw_good (ck_m5 tw_1968 tw_1970 tw_93 tw_104 tw_1971) (by decide) rfl rfl rfl he_X12_failedLong ⟨rfl, rfl⟩ ⟨by decide, by decide⟩, (fun _ h => absurd h List.not_mem_nil)⟩)⟩)⟩)⟩)⟩)
theorem t_X12_cell (l : Launch) : ck_met cw_V l yX12_cell cX12_cell 4 (some .long) ⟨2, 0, 0, 47⟩ C_X12_cell :=
  ck_meth (M := M_X12_cell) (rt := 3) (pre := []) false pn_X12_cell rfl (fun h => by cases h) ⟨rfl, rfl, rfl, rfl, rfl⟩ ⟨rfl, rfl⟩ rfl (by decide) (by decide) (by decide) k_X12_cell (tb_X12 ⟨rfl, rfl, rfl, rfl, rfl, rfl, rfl, rfl, rfl⟩) a_X12_cell h_X12_cell rfl
theorem hd_X12_trace : yX12_trace.cls ≠ "java/lang/invoke/MethodHandle" ∧ yX12_trace.cls ≠ "java/lang/invoke/VarHandle" ∧ (parseMethodDescriptor yX12_trace.desc).map (fun d => d.parameters.length) = some 0 := ⟨by decide, by decide, by decide +kernel⟩
theorem he_X12_trace : yX12_trace.cls ≠ "java/lang/invoke/MethodHandle" ∧ yX12_trace.cls ≠ "java/lang/invoke/VarHandle" ∧ (parseMethodDescriptor yX12_trace.desc).map (fun d => d.parameters.length + 1) = some 1 := ⟨by decide, by decide, by decide +kernel⟩
theorem pn_X12_trace : plainFor yX12_trace = true := by decide +kernel
def K_X12_trace : ck_cd := [(0, .aload_n 0, 1), (1, .getfield 477, 3), (4, .ireturn, 1)]
theorem k_X12_trace : ∀ x ∈ K_X12_trace, decode cX12_trace x.1 = .ok (x.2.1, x.2.2) := by decide +kernel
def C_X12_trace : ck_C := (([(2, 1, [17])], [], [(0, 0), (1, 0)], []), [([(0, 2, [])], [], [(1, 0), (1, 0), ((-2147483648), 2147483647)], [])], [], 0, 0)
def M_X12_trace : ck_Me := (4, cw_TT, cw_SG, 1, fl_X12, pl_X12, nw_X12, kl_X12, il_X12, xl_X12, cw_al, [], [], (0, 0), gl_X12)
def I_X12_trace : List (Nat × ck_I) := []
def S_X12_trace : ck_S := ([(0, (2, 1, [17]))], [], [(0, 1000, (8, 0, [])), (0, 1001, (8, 1, []))], [(0, 0), (1, 0)], [], 0, 0)
theorem h_X12_trace : ck_chk M_X12_trace (ck_kr (mF M_X12_trace) 2 1 C_X12_trace) K_X12_trace I_X12_trace 2 8 S_X12_trace = true := by decide +kernel
theorem o_X12_trace : ck_ok5 C_X12_trace = true := by decide +kernel
theorem a_X12_trace : ck_ca cw_V RX12 cX12_trace ⟨0, 0, 0, 0⟩ M_X12_trace := fun _ _ _ _ _ _ _ _ _ _ _ _ _ _ _ _ _ _ _ _ h => absurd h List.not_mem_nil
theorem t_X12_trace (l : Launch) : ck_met cw_V l yX12_trace cX12_trace 1 (some .int) ⟨0, 0, 0, 0⟩ C_X12_trace :=
  ck_meth (M := M_X12_trace) (rt := 1) (pre := []) false pn_X12_trace rfl (fun h => by cases h) ⟨rfl, rfl, rfl, rfl, rfl⟩ ⟨rfl, rfl⟩ rfl (by decide) (by decide) (by decide) k_X12_trace (tb_X12 ⟨rfl, rfl, rfl, rfl, rfl, rfl, rfl, rfl, rfl⟩) a_X12_trace h_X12_trace rfl
theorem hd_X12_fault : yX12_fault.cls ≠ "java/lang/invoke/MethodHandle" ∧ yX12_fault.cls ≠ "java/lang/invoke/VarHandle" ∧ (parseMethodDescriptor yX12_fault.desc).map (fun d => d.parameters.length) = some 0 := ⟨by decide, by decide, by decide +kernel⟩
theorem he_X12_fault : yX12_fault.cls ≠ "java/lang/invoke/MethodHandle" ∧ yX12_fault.cls ≠ "java/lang/invoke/VarHandle" ∧ (parseMethodDescriptor yX12_fault.desc).map (fun d => d.parameters.length + 1) = some 1 := ⟨by decide, by decide, by decide +kernel⟩
theorem pn_X12_fault : plainFor yX12_fault = true := by decide +kernel
def K_X12_fault : ck_cd := [(0, .aload_n 0, 1), (1, .getfield 142, 3), (4, .ireturn, 1)]
theorem k_X12_fault : ∀ x ∈ K_X12_fault, decode cX12_fault x.1 = .ok (x.2.1, x.2.2) := by decide +kernel
def C_X12_fault : ck_C := (([(2, 1, [17])], [], [(0, 0), (1, 0)], []), [([(0, 2, [])], [], [(1, 0), (1, 0), ((-2147483648), 2147483647)], [])], [], 0, 0)
def M_X12_fault : ck_Me := (4, cw_TT, cw_SG, 1, fl_X12, pl_X12, nw_X12, kl_X12, il_X12, xl_X12, cw_al, [], [], (0, 0), gl_X12)
def I_X12_fault : List (Nat × ck_I) := []
def S_X12_fault : ck_S := ([(0, (2, 1, [17]))], [], [(0, 1000, (8, 0, [])), (0, 1001, (8, 1, []))], [(0, 0), (1, 0)], [], 0, 0)
theorem h_X12_fault : ck_chk M_X12_fault (ck_kr (mF M_X12_fault) 2 1 C_X12_fault) K_X12_fault I_X12_fault 2 8 S_X12_fault = true := by decide +kernel
theorem o_X12_fault : ck_ok5 C_X12_fault = true := by decide +kernel
theorem a_X12_fault : ck_ca cw_V RX12 cX12_fault ⟨0, 0, 0, 0⟩ M_X12_fault := fun _ _ _ _ _ _ _ _ _ _ _ _ _ _ _ _ _ _ _ _ h => absurd h List.not_mem_nil
theorem t_X12_fault (l : Launch) : ck_met cw_V l yX12_fault cX12_fault 1 (some .int) ⟨0, 0, 0, 0⟩ C_X12_fault :=
  ck_meth (M := M_X12_fault) (rt := 1) (pre := []) false pn_X12_fault rfl (fun h => by cases h) ⟨rfl, rfl, rfl, rfl, rfl⟩ ⟨rfl, rfl⟩ rfl (by decide) (by decide) (by decide) k_X12_fault (tb_X12 ⟨rfl, rfl, rfl, rfl, rfl, rfl, rfl, rfl, rfl⟩) a_X12_fault h_X12_fault rfl
