/-! methods, 0 -/
theorem hd_X11_isLane : yX11_isLane.cls ≠ "java/lang/invoke/MethodHandle" ∧ yX11_isLane.cls ≠ "java/lang/invoke/VarHandle" ∧ (parseMethodDescriptor yX11_isLane.desc).map (fun d => d.parameters.length) = some 1 := ⟨by decide, by decide, by decide +kernel⟩
theorem he_X11_isLane : yX11_isLane.cls ≠ "java/lang/invoke/MethodHandle" ∧ yX11_isLane.cls ≠ "java/lang/invoke/VarHandle" ∧ (parseMethodDescriptor yX11_isLane.desc).map (fun d => d.parameters.length + 1) = some 2 := ⟨by decide, by decide, by decide +kernel⟩
theorem pn_X11_isLane : plainFor yX11_isLane = true := by decide +kernel
def K_X11_isLane : ck_cd := [(0, .iload_n 0, 1), (1, .ifCond .lt 12, 3), (4, .iload_n 0, 1), (5, .iconst 3, 1), (6, .if_icmp .ge 7, 3), (9, .iconst 1, 1), (10, .goto 4, 3), (13, .iconst 0, 1), (14, .ireturn, 1)]
theorem k_X11_isLane : ∀ x ∈ K_X11_isLane, decode cX11_isLane x.1 = .ok (x.2.1, x.2.2) := by decide +kernel
def C_X11_isLane : ck_C := (([(0, 1, [])], [], [(0, 0), ((-2147483648), 2147483647)], []), [([(0, 2, [])], [], [(1, 0), (1, 0), (1, 1)], [(1, 0, 2), (0, 1, 0)]), ([(0, 2, [])], [], [(1, 0), (1, 0), (0, 0)], [])], [], 0, 0)
def M_X11_isLane : ck_Me := (4, cw_TT, cw_SG, 1, fl_X11, pl_X11, nw_X11, kl_X11, il_X11, xl_X11, cw_al, [], [], (0, 0), gl_X11)
def I_X11_isLane : List (Nat × ck_I) := []
def S_X11_isLane : ck_S := ([(0, (0, 1, []))], [], [(0, 1000, (8, 0, [])), (0, 1001, (8, 1, []))], [(0, 0), ((-2147483648), 2147483647)], [], 0, 0)
theorem h_X11_isLane : ck_chk M_X11_isLane (ck_kr (mF M_X11_isLane) 2 2 C_X11_isLane) K_X11_isLane I_X11_isLane 2 14 S_X11_isLane = true := by decide +kernel
theorem o_X11_isLane : ck_ok5 C_X11_isLane = true := by decide +kernel
theorem a_X11_isLane : ck_ca cw_V RX11 cX11_isLane ⟨0, 0, 0, 0⟩ M_X11_isLane := fun _ _ _ _ _ _ _ _ _ _ _ _ _ _ _ _ _ _ _ _ h => absurd h List.not_mem_nil
theorem t_X11_isLane (l : Launch) : ck_met cw_V l yX11_isLane cX11_isLane 1 (some .boolean) ⟨0, 0, 0, 0⟩ C_X11_isLane :=
  ck_meth (M := M_X11_isLane) (rt := 2) (pre := []) false pn_X11_isLane rfl (fun h => by cases h) ⟨rfl, rfl, rfl, rfl, rfl⟩ ⟨rfl, rfl⟩ rfl (by decide) (by decide) (by decide) k_X11_isLane (tb_X11 ⟨rfl, rfl, rfl, rfl, rfl, rfl, rfl, rfl, rfl⟩) a_X11_isLane h_X11_isLane rfl
theorem hd_X11_faulted : yX11_faulted.cls ≠ "java/lang/invoke/MethodHandle" ∧ yX11_faulted.cls ≠ "java/lang/invoke/VarHandle" ∧ (parseMethodDescriptor yX11_faulted.desc).map (fun d => d.parameters.length) = some 1 := ⟨by decide, by decide, by decide +kernel⟩
theorem he_X11_faulted : yX11_faulted.cls ≠ "java/lang/invoke/MethodHandle" ∧ yX11_faulted.cls ≠ "java/lang/invoke/VarHandle" ∧ (parseMethodDescriptor yX11_faulted.desc).map (fun d => d.parameters.length + 1) = some 2 := ⟨by decide, by decide, by decide +kernel⟩
theorem pn_X11_faulted : plainFor yX11_faulted = true := by decide +kernel
def K_X11_faulted : ck_cd := [(0, .aload_n 0, 1), (1, .iload_n 1, 1), (2, .putfield 93, 3), (5, .bipush (-10), 2), (7, .iload_n 1, 1), (8, .isub, 1), (9, .ireturn, 1)]
theorem k_X11_faulted : ∀ x ∈ K_X11_faulted, decode cX11_faulted x.1 = .ok (x.2.1, x.2.2) := by decide +kernel
def C_X11_faulted : ck_C := (([(2, 1, [11]), (0, 2, [])], [], [(0, 0), (1, 0), ((-2147483648), 2147483647)], []), [([(0, 3, [])], [], [(1, 0), (1, 0), (1, 0), ((-2147483648), 2147483647)], [])], [(11, 14)], 0, 0)
def M_X11_faulted : ck_Me := (4, cw_TT, cw_SG, 2, fl_X11, pl_X11, nw_X11, kl_X11, il_X11, xl_X11, cw_al, [], [(11, 14)], (0, 0), gl_X11)
def I_X11_faulted : List (Nat × ck_I) := []
def S_X11_faulted : ck_S := ([(0, (2, 1, [11])), (1, (0, 2, []))], [], [(0, 1000, (8, 0, [])), (0, 1001, (8, 1, [])), (0, 1002, (8, 2, []))], [(0, 0), (1, 0), ((-2147483648), 2147483647)], [], 0, 0)
theorem h_X11_faulted : ck_chk M_X11_faulted (ck_kr (mF M_X11_faulted) 3 1 C_X11_faulted) K_X11_faulted I_X11_faulted 3 12 S_X11_faulted = true := by decide +kernel
theorem o_X11_faulted : ck_ok5 C_X11_faulted = true := by decide +kernel
theorem a_X11_faulted : ck_ca cw_V RX11 cX11_faulted ⟨0, 0, 0, 0⟩ M_X11_faulted := fun _ _ _ _ _ _ _ _ _ _ _ _ _ _ _ _ _ _ _ _ h => absurd h List.not_mem_nil
theorem t_X11_faulted (l : Launch) : ck_met cw_V l yX11_faulted cX11_faulted 2 (some .int) ⟨0, 0, 0, 0⟩ C_X11_faulted :=
  ck_meth (M := M_X11_faulted) (rt := 1) (pre := []) false pn_X11_faulted rfl (fun h => by cases h) ⟨rfl, rfl, rfl, rfl, rfl⟩ ⟨rfl, rfl⟩ rfl (by decide) (by decide) (by decide) k_X11_faulted (tb_X11 ⟨rfl, rfl, rfl, rfl, rfl, rfl, rfl, rfl, rfl⟩) a_X11_faulted h_X11_faulted rfl
theorem hd_X7_isOperand : yX7_isOperand.cls ≠ "java/lang/invoke/MethodHandle" ∧ yX7_isOperand.cls ≠ "java/lang/invoke/VarHandle" ∧ (parseMethodDescriptor yX7_isOperand.desc).map (fun d => d.parameters.length) = some 1 := ⟨by decide, by decide, by decide +kernel⟩
theorem he_X7_isOperand : yX7_isOperand.cls ≠ "java/lang/invoke/MethodHandle" ∧ yX7_isOperand.cls ≠ "java/lang/invoke/VarHandle" ∧ (parseMethodDescriptor yX7_isOperand.desc).map (fun d => d.parameters.length + 1) = some 2 := ⟨by decide, by decide, by decide +kernel⟩
theorem pn_X7_isOperand : plainFor yX7_isOperand = true := by decide +kernel
def K_X7_isOperand : ck_cd := [(0, .iload_n 0, 1), (1, .bipush 97, 2), (3, .if_icmp .lt 9, 3), (6, .iload_n 0, 1), (7, .bipush 104, 2), (9, .if_icmp .le 15, 3), (12, .iload_n 0, 1), (13, .bipush 48, 2), (15, .if_icmp .eq 9, 3), (18, .iload_n 0, 1), (19, .bipush 49, 2), (21, .if_icmp .ne 7, 3), (24, .iconst 1, 1), (25, .goto 4, 3), (28, .iconst 0, 1), (29, .ireturn, 1)]
theorem k_X7_isOperand : ∀ x ∈ K_X7_isOperand, decode cX7_isOperand x.1 = .ok (x.2.1, x.2.2) := by decide +kernel
def C_X7_isOperand : ck_C := (([(0, 1, [])], [], [(0, 0), ((-2147483648), 2147483647)], []), [([(0, 2, [])], [], [(1, 0), (1, 0), (0, 0)], []), ([(0, 2, [])], [], [(1, 0), (1, 0), (1, 1)], [(1, 0, 104), (0, 1, (-48))])], [], 0, 0)
def M_X7_isOperand : ck_Me := (4, cw_TT, cw_SG, 1, fl_X7, pl_X7, nw_X7, kl_X7, il_X7, xl_X7, cw_al, [], [], (0, 0), gl_X7)
def I_X7_isOperand : List (Nat × ck_I) := []
def S_X7_isOperand : ck_S := ([(0, (0, 1, []))], [], [(0, 1000, (8, 0, [])), (0, 1001, (8, 1, []))], [(0, 0), ((-2147483648), 2147483647)], [], 0, 0)
theorem h_X7_isOperand : ck_chk M_X7_isOperand (ck_kr (mF M_X7_isOperand) 2 2 C_X7_isOperand) K_X7_isOperand I_X7_isOperand 2 21 S_X7_isOperand = true := by decide +kernel
theorem o_X7_isOperand : ck_ok5 C_X7_isOperand = true := by decide +kernel
theorem a_X7_isOperand : ck_ca cw_V RX7 cX7_isOperand ⟨0, 0, 0, 0⟩ M_X7_isOperand := fun _ _ _ _ _ _ _ _ _ _ _ _ _ _ _ _ _ _ _ _ h => absurd h List.not_mem_nil
theorem t_X7_isOperand (l : Launch) : ck_met cw_V l yX7_isOperand cX7_isOperand 1 (some .boolean) ⟨0, 0, 0, 0⟩ C_X7_isOperand :=
  ck_meth (M := M_X7_isOperand) (rt := 2) (pre := []) false pn_X7_isOperand rfl (fun h => by cases h) ⟨rfl, rfl, rfl, rfl, rfl⟩ ⟨rfl, rfl⟩ rfl (by decide) (by decide) (by decide) k_X7_isOperand (tb_X7 ⟨rfl, rfl, rfl, rfl, rfl, rfl, rfl, rfl, rfl⟩) a_X7_isOperand h_X7_isOperand rfl
theorem hd_X7_rank : yX7_rank.cls ≠ "java/lang/invoke/MethodHandle" ∧ yX7_rank.cls ≠ "java/lang/invoke/VarHandle" ∧ (parseMethodDescriptor yX7_rank.desc).map (fun d => d.parameters.length) = some 1 := ⟨by decide, by decide, by decide +kernel⟩
theorem he_X7_rank : yX7_rank.cls ≠ "java/lang/invoke/MethodHandle" ∧ yX7_rank.cls ≠ "java/lang/invoke/VarHandle" ∧ (parseMethodDescriptor yX7_rank.desc).map (fun d => d.parameters.length + 1) = some 2 := ⟨by decide, by decide, by decide +kernel⟩
theorem pn_X7_rank : plainFor yX7_rank = true := by decide +kernel
def K_X7_rank : ck_cd := [(0, .iload_n 0, 1), (1, .bipush 38, 2), (3, .if_icmp .ne 7, 3), (6, .iconst 3, 1), (7, .goto 24, 3), (10, .iload_n 0, 1), (11, .bipush 124, 2), (13, .if_icmp .ne 7, 3), (16, .iconst 2, 1), (17, .goto 14, 3), (20, .iload_n 0, 1), (21, .bipush 62, 2), (23, .if_icmp .ne 7, 3), (26, .iconst 1, 1), (27, .goto 4, 3), (30, .iconst 0, 1), (31, .ireturn, 1)]
theorem k_X7_rank : ∀ x ∈ K_X7_rank, decode cX7_rank x.1 = .ok (x.2.1, x.2.2) := by decide +kernel
def C_X7_rank : ck_C := (([(0, 1, [])], [], [(0, 0), ((-2147483648), 2147483647)], []), [([(0, 2, [])], [], [(1, 0), (1, 0), (3, 3)], [(1, 0, 38), (0, 1, (-38))]), ([(0, 2, [])], [], [(1, 0), (1, 0), (2, 2)], [(1, 0, 124), (0, 1, (-124))]), ([(0, 2, [])], [], [(1, 0), (1, 0), (1, 1)], [(1, 0, 62), (0, 1, (-62))]), ([(0, 2, [])], [], [(1, 0), (1, 0), (0, 0)], [])], [], 0, 0)
def M_X7_rank : ck_Me := (4, cw_TT, cw_SG, 1, fl_X7, pl_X7, nw_X7, kl_X7, il_X7, xl_X7, cw_al, [], [], (0, 0), gl_X7)
def I_X7_rank : List (Nat × ck_I) := []
def S_X7_rank : ck_S := ([(0, (0, 1, []))], [], [(0, 1000, (8, 0, [])), (0, 1001, (8, 1, []))], [(0, 0), ((-2147483648), 2147483647)], [], 0, 0)
theorem h_X7_rank : ck_chk M_X7_rank (ck_kr (mF M_X7_rank) 2 1 C_X7_rank) K_X7_rank I_X7_rank 2 22 S_X7_rank = true := by decide +kernel
theorem o_X7_rank : ck_ok5 C_X7_rank = true := by decide +kernel
theorem a_X7_rank : ck_ca cw_V RX7 cX7_rank ⟨0, 0, 0, 0⟩ M_X7_rank := fun _ _ _ _ _ _ _ _ _ _ _ _ _ _ _ _ _ _ _ _ h => absurd h List.not_mem_nil
theorem t_X7_rank (l : Launch) : ck_met cw_V l yX7_rank cX7_rank 1 (some .int) ⟨0, 0, 0, 0⟩ C_X7_rank :=
  ck_meth (M := M_X7_rank) (rt := 1) (pre := []) false pn_X7_rank rfl (fun h => by cases h) ⟨rfl, rfl, rfl, rfl, rfl⟩ ⟨rfl, rfl⟩ rfl (by decide) (by decide) (by decide) k_X7_rank (tb_X7 ⟨rfl, rfl, rfl, rfl, rfl, rfl, rfl, rfl, rfl⟩) a_X7_rank h_X7_rank rfl
theorem hd_X7_firstFault : yX7_firstFault.cls ≠ "java/lang/invoke/MethodHandle" ∧ yX7_firstFault.cls ≠ "java/lang/invoke/VarHandle" ∧ (parseMethodDescriptor yX7_firstFault.desc).map (fun d => d.parameters.length) = some 3 := ⟨by decide, by decide, by decide +kernel⟩
theorem he_X7_firstFault : yX7_firstFault.cls ≠ "java/lang/invoke/MethodHandle" ∧ yX7_firstFault.cls ≠ "java/lang/invoke/VarHandle" ∧ (parseMethodDescriptor yX7_firstFault.desc).map (fun d => d.parameters.length + 1) = some 4 := ⟨by decide, by decide, by decide +kernel⟩
theorem pn_X7_firstFault : plainFor yX7_firstFault = true := by decide +kernel
def K_X7_firstFault : ck_cd := [(0, .iconst 1, 1), (1, .istore 4, 2), (3, .iconst 0, 1), (4, .istore 5, 2), (6, .iconst 0, 1), (7, .istore 6, 2), (9, .iload 6, 2), (11, .iload_n 3, 1), (12, .if_icmp .ge 114, 3), (15, .iload_n 2, 1), (16, .iload 6, 2), (18, .iadd, 1), (19, .istore 7, 2), (21, .iload 7, 2), (23, .ifCond .lt 17, 3), (26, .iload 7, 2), (28, .aload_n 1, 1), (29, .arraylength, 1), (30, .if_icmp .ge 10, 3), (33, .aload_n 1, 1), (34, .iload 7, 2), (36, .iaload, 1), (37, .goto 4, 3), (40, .iconst 0, 1), (41, .istore 8, 2), (43, .iload 4, 2), (45, .ifCond .eq 40, 3), (48, .iload 8, 2), (50, .bipush 40, 2), (52, .if_icmp .ne 9, 3), (55, .iinc 5 1, 3), (58, .goto 62, 3), (61, .iload 8, 2), (63, .invokestatic 23, 3), (66, .ifCond .eq 9, 3), (69, .iconst 0, 1), (70, .istore 4, 2), (72, .goto 48, 3), (75, .iload 8, 2), (77, .bipush 45, 2), (79, .if_icmp .eq 41, 3), (82, .iload 6, 2), (84, .ireturn, 1), (85, .iload 8, 2), (87, .invokestatic 27, 3), (90, .ifCond .le 9, 3), (93, .iconst 1, 1), (94, .istore 4, 2), (96, .goto 24, 3), (99, .iload 8, 2), (101, .bipush 41, 2), (103, .if_icmp .ne 14, 3), (106, .iload 5, 2), (108, .ifCond .le 9, 3), (111, .iinc 5 (-1), 3), (114, .goto 6, 3), (117, .iload 6, 2), (119, .ireturn, 1), (120, .iinc 6 1, 3), (123, .goto (-114), 3), (126, .iload 4, 2), (128, .ifCond .ne 8, 3), (131, .iload 5, 2), (133, .ifCond .le 7, 3), (136, .iload_n 3, 1), (137, .goto 4, 3), (140, .iconst (-1), 1), (141, .ireturn, 1)]
theorem k_X7_firstFault : ∀ x ∈ K_X7_firstFault, decode cX7_firstFault x.1 = .ok (x.2.1, x.2.2) := by decide +kernel
def C_X7_firstFault : ck_C := (([(2, 1, [12]), (2, 2, [20]), (0, 3, []), (0, 4, [])], [], [(0, 0), (1, 0), (1, 0), (0, 60), (0, 2147483647)], []), [([(0, 5, [])], [], [(1, 0), (1, 0), (1, 0), (1, 0), (1, 0), (0, 2147483647)], [(5, 4, 0)]), ([(0, 5, [])], [], [(1, 0), (1, 0), (1, 0), (1, 0), (1, 0), ((-1), (-1))], [])], [], 0, 0)
def M_X7_firstFault : ck_Me := (4, cw_TT, cw_SG, 9, fl_X7, pl_X7, nw_X7, kl_X7, il_X7, xl_X7, cw_al, [(3 * 23 + 1, 0, 1, C_X7_isOperand), (3 * 27 + 1, 0, 1, C_X7_rank)], [], (0, 0), gl_X7)
def I_X7_firstFault : List (Nat × ck_I) := [(9, (([(1, (2, 2, [20])), (2, (0, 3, [])), (3, (0, 4, [])), (4, (0, 5, [])), (5, (0, 6, [])), (6, (0, 7, []))], [], [], [(0, 0), (1, 0), (1, 0), (0, 60), (0, 2147483647), (0, 1), ((-2147483648), 2147483647), (0, 2147483647)], [(7, 4, 0)], 0, 0), [(1, 7, 2147483648), (0, 0, 1152921504606846976), (0, 0, 1152921504606846976)]))]
def S_X7_firstFault : ck_S := ([(0, (2, 1, [12])), (1, (2, 2, [20])), (2, (0, 3, [])), (3, (0, 4, []))], [], [(0, 1000, (8, 0, [])), (0, 1001, (8, 1, [])), (0, 1002, (8, 2, [])), (0, 1003, (8, 3, [])), (0, 1004, (8, 4, []))], [(0, 0), (1, 0), (1, 0), (0, 60), (0, 2147483647)], [], 0, 0)
theorem h_X7_firstFault : ck_chk M_X7_firstFault (ck_kr (mF M_X7_firstFault) 5 1 C_X7_firstFault) K_X7_firstFault I_X7_firstFault 5 73 S_X7_firstFault = true := by decide +kernel
theorem o_X7_firstFault : ck_ok5 C_X7_firstFault = true := by decide +kernel
theorem a_X7_firstFault : ck_ca cw_V RX7 cX7_firstFault ⟨1, 0, 0, 20⟩ M_X7_firstFault := fun _ l _ _ _ _ _ _ _ _ _ _ _ _ X hts htl hsw hnq =>
  (List.forall_mem_cons.mpr ⟨ck_cs_S (t_X7_isOperand l) X hts htl hsw hnq ⟨rfl, rfl⟩ o_X7_isOperand cw_good (ck_m4 tw_429 tw_430 tw_98 tw_431) hd_X7_isOperand ⟨rfl, rfl⟩ ⟨by decide, by decide⟩, (List.forall_mem_cons.mpr ⟨ck_cs_S (t_X7_rank l) X hts htl hsw hnq ⟨rfl, rfl⟩ o_X7_rank cw_good (ck_m4 tw_432 tw_433 tw_98 tw_434) hd_X7_rank ⟨rfl, rfl⟩ ⟨by decide, by decide⟩, (fun _ h => absurd h List.not_mem_nil)⟩)⟩)
theorem t_X7_firstFault (l : Launch) : ck_met cw_V l yX7_firstFault cX7_firstFault 9 (some .int) ⟨1, 0, 0, 20⟩ C_X7_firstFault :=
  ck_meth (M := M_X7_firstFault) (rt := 1) (pre := []) false pn_X7_firstFault rfl (fun h => by cases h) ⟨rfl, rfl, rfl, rfl, rfl⟩ ⟨rfl, rfl⟩ rfl (by decide) (by decide) (by decide) k_X7_firstFault (tb_X7 ⟨rfl, rfl, rfl, rfl, rfl, rfl, rfl, rfl, rfl⟩) a_X7_firstFault h_X7_firstFault rfl
theorem hd_J9_max_7cf53 : yJ9_max_7cf53.cls ≠ "java/lang/invoke/MethodHandle" ∧ yJ9_max_7cf53.cls ≠ "java/lang/invoke/VarHandle" ∧ (parseMethodDescriptor yJ9_max_7cf53.desc).map (fun d => d.parameters.length) = some 2 := ⟨by decide, by decide, by decide +kernel⟩
theorem he_J9_max_7cf53 : yJ9_max_7cf53.cls ≠ "java/lang/invoke/MethodHandle" ∧ yJ9_max_7cf53.cls ≠ "java/lang/invoke/VarHandle" ∧ (parseMethodDescriptor yJ9_max_7cf53.desc).map (fun d => d.parameters.length + 1) = some 3 := ⟨by decide, by decide, by decide +kernel⟩
theorem pn_J9_max_7cf53 : plainFor yJ9_max_7cf53 = true := by decide +kernel
def K_J9_max_7cf53 : ck_cd := [(0, .iload_n 0, 1), (1, .iload_n 1, 1), (2, .if_icmp .lt 7, 3), (5, .iload_n 0, 1), (6, .goto 4, 3), (9, .iload_n 1, 1), (10, .ireturn, 1)]
theorem k_J9_max_7cf53 : ∀ x ∈ K_J9_max_7cf53, decode cJ9_max_7cf53 x.1 = .ok (x.2.1, x.2.2) := by decide +kernel
def C_J9_max_7cf53 : ck_C := (([(0, 1, []), (0, 2, [])], [], [(0, 0), ((-2147483648), 2147483647), ((-2147483648), 2147483647)], []), [([(0, 3, [])], [], [(1, 0), (1, 0), (1, 0), ((-2147483648), 2147483647)], [(3, 1, 0), (1, 3, 0), (2, 3, 0), (2, 1, 0)]), ([(0, 3, [])], [], [(1, 0), (1, 0), (1, 0), ((-2147483647), 2147483647)], [(1, 0, 2147483646), (0, 2, 2147483647), (3, 2, 0), (1, 3, (-1)), (1, 2, (-1)), (2, 3, 0)])], [], 0, 0)
def M_J9_max_7cf53 : ck_Me := (4, cw_TT, cw_SG, 2, fl_J9, pl_J9, nw_J9, kl_J9, il_J9, xl_J9, cw_al, [], [], (0, 0), gl_J9)
def I_J9_max_7cf53 : List (Nat × ck_I) := []
def S_J9_max_7cf53 : ck_S := ([(0, (0, 1, [])), (1, (0, 2, []))], [], [(0, 1000, (8, 0, [])), (0, 1001, (8, 1, [])), (0, 1002, (8, 2, []))], [(0, 0), ((-2147483648), 2147483647), ((-2147483648), 2147483647)], [], 0, 0)
theorem h_J9_max_7cf53 : ck_chk M_J9_max_7cf53 (ck_kr (mF M_J9_max_7cf53) 3 1 C_J9_max_7cf53) K_J9_max_7cf53 I_J9_max_7cf53 3 12 S_J9_max_7cf53 = true := by decide +kernel
theorem o_J9_max_7cf53 : ck_ok5 C_J9_max_7cf53 = true := by decide +kernel
theorem a_J9_max_7cf53 : ck_ca cw_V RJ9 cJ9_max_7cf53 ⟨0, 0, 0, 0⟩ M_J9_max_7cf53 := fun _ _ _ _ _ _ _ _ _ _ _ _ _ _ _ _ _ _ _ _ h => absurd h List.not_mem_nil
theorem t_J9_max_7cf53 (l : Launch) : ck_met cw_V l yJ9_max_7cf53 cJ9_max_7cf53 2 (some .int) ⟨0, 0, 0, 0⟩ C_J9_max_7cf53 :=
  ck_meth (M := M_J9_max_7cf53) (rt := 1) (pre := []) false pn_J9_max_7cf53 rfl (fun h => by cases h) ⟨rfl, rfl, rfl, rfl, rfl⟩ ⟨rfl, rfl⟩ rfl (by decide) (by decide) (by decide) k_J9_max_7cf53 (tb_J9 ⟨rfl, rfl, rfl, rfl, rfl, rfl, rfl, rfl, rfl⟩) a_J9_max_7cf53 h_J9_max_7cf53 rfl
theorem hd_X1_meet : yX1_meet.cls ≠ "java/lang/invoke/MethodHandle" ∧ yX1_meet.cls ≠ "java/lang/invoke/VarHandle" ∧ (parseMethodDescriptor yX1_meet.desc).map (fun d => d.parameters.length) = some 1 := ⟨by decide, by decide, by decide +kernel⟩
theorem he_X1_meet : yX1_meet.cls ≠ "java/lang/invoke/MethodHandle" ∧ yX1_meet.cls ≠ "java/lang/invoke/VarHandle" ∧ (parseMethodDescriptor yX1_meet.desc).map (fun d => d.parameters.length + 1) = some 2 := ⟨by decide, by decide, by decide +kernel⟩
theorem pn_X1_meet : plainFor yX1_meet = true := by decide +kernel
def K_X1_meet : ck_cd := [(0, .iconst 0, 1), (1, .istore_n 2, 1), (2, .iload_n 2, 1), (3, .aload_n 0, 1), (4, .getfield 13, 3), (7, .arraylength, 1), (8, .if_icmp .ge 33, 3), (11, .iload_n 2, 1), (12, .aload_n 1, 1), (13, .getfield 13, 3), (16, .arraylength, 1), (17, .if_icmp .ge 24, 3), (20, .aload_n 0, 1), (21, .getfield 13, 3), (24, .iload_n 2, 1), (25, .dup2, 1), (26, .laload, 1), (27, .aload_n 1, 1), (28, .getfield 13, 3), (31, .iload_n 2, 1), (32, .laload, 1), (33, .land, 1), (34, .lastore, 1), (35, .iinc 2 1, 3), (38, .goto (-36), 3), (41, .return_, 1)]
theorem k_X1_meet : ∀ x ∈ K_X1_meet, decode cX1_meet x.1 = .ok (x.2.1, x.2.2) := by decide +kernel
def C_X1_meet : ck_C := (([(2, 1, [1]), (2, 2, [1])], [], [(0, 0), (1, 0), (1, 0)], []), [([], [], [(1, 0), (1, 0), (1, 0)], [])], [(2, 0)], 0, 0)
def M_X1_meet : ck_Me := (4, cw_TT, cw_SG, 3, fl_X1, pl_X1, nw_X1, kl_X1, il_X1, xl_X1, cw_al, [], [(2, 0)], (0, 0), gl_X1)
def I_X1_meet : List (Nat × ck_I) := [(2, (([(0, (2, 1, [1])), (1, (2, 2, [1])), (2, (0, 3, []))], [], [], [(0, 0), (1, 0), (1, 0), (0, 5)], [], 0, 0), [(1, 3, 6), (0, 0, 1152921504606846976), (0, 0, 1152921504606846976)]))]
def S_X1_meet : ck_S := ([(0, (2, 1, [1])), (1, (2, 2, [1]))], [], [(0, 1000, (8, 0, [])), (0, 1001, (8, 1, [])), (0, 1002, (8, 2, []))], [(0, 0), (1, 0), (1, 0)], [], 0, 0)
theorem h_X1_meet : ck_chk M_X1_meet (ck_kr (mF M_X1_meet) 3 0 C_X1_meet) K_X1_meet I_X1_meet 3 31 S_X1_meet = true := by decide +kernel
theorem o_X1_meet : ck_ok5 C_X1_meet = true := by decide +kernel
theorem a_X1_meet : ck_ca cw_V RX1 cX1_meet ⟨0, 0, 0, 0⟩ M_X1_meet := fun _ _ _ _ _ _ _ _ _ _ _ _ _ _ _ _ _ _ _ _ h => absurd h List.not_mem_nil
theorem t_X1_meet (l : Launch) : ck_met cw_V l yX1_meet cX1_meet 3 none ⟨0, 0, 0, 0⟩ C_X1_meet :=
  ck_meth (M := M_X1_meet) (rt := 0) (pre := []) false pn_X1_meet rfl (fun h => by cases h) ⟨rfl, rfl, rfl, rfl, rfl⟩ ⟨rfl, rfl⟩ rfl (by decide) (by decide) (by decide) k_X1_meet (tb_X1 ⟨rfl, rfl, rfl, rfl, rfl, rfl, rfl, rfl, rfl⟩) a_X1_meet h_X1_meet rfl
theorem hd_X1_join : yX1_join.cls ≠ "java/lang/invoke/MethodHandle" ∧ yX1_join.cls ≠ "java/lang/invoke/VarHandle" ∧ (parseMethodDescriptor yX1_join.desc).map (fun d => d.parameters.length) = some 1 := ⟨by decide, by decide, by decide +kernel⟩
theorem he_X1_join : yX1_join.cls ≠ "java/lang/invoke/MethodHandle" ∧ yX1_join.cls ≠ "java/lang/invoke/VarHandle" ∧ (parseMethodDescriptor yX1_join.desc).map (fun d => d.parameters.length + 1) = some 2 := ⟨by decide, by decide, by decide +kernel⟩
theorem pn_X1_join : plainFor yX1_join = true := by decide +kernel
def K_X1_join : ck_cd := [(0, .iconst 0, 1), (1, .istore_n 2, 1), (2, .iload_n 2, 1), (3, .aload_n 0, 1), (4, .getfield 13, 3), (7, .arraylength, 1), (8, .if_icmp .ge 33, 3), (11, .iload_n 2, 1), (12, .aload_n 1, 1), (13, .getfield 13, 3), (16, .arraylength, 1), (17, .if_icmp .ge 24, 3), (20, .aload_n 0, 1), (21, .getfield 13, 3), (24, .iload_n 2, 1), (25, .dup2, 1), (26, .laload, 1), (27, .aload_n 1, 1), (28, .getfield 13, 3), (31, .iload_n 2, 1), (32, .laload, 1), (33, .lor, 1), (34, .lastore, 1), (35, .iinc 2 1, 3), (38, .goto (-36), 3), (41, .return_, 1)]
theorem k_X1_join : ∀ x ∈ K_X1_join, decode cX1_join x.1 = .ok (x.2.1, x.2.2) := by decide +kernel
def C_X1_join : ck_C := (([(2, 1, [1]), (2, 2, [1])], [], [(0, 0), (1, 0), (1, 0)], []), [([], [], [(1, 0), (1, 0), (1, 0)], [])], [(2, 0)], 0, 0)
def M_X1_join : ck_Me := (4, cw_TT, cw_SG, 3, fl_X1, pl_X1, nw_X1, kl_X1, il_X1, xl_X1, cw_al, [], [(2, 0)], (0, 0), gl_X1)
def I_X1_join : List (Nat × ck_I) := [(2, (([(0, (2, 1, [1])), (1, (2, 2, [1])), (2, (0, 3, []))], [], [], [(0, 0), (1, 0), (1, 0), (0, 5)], [], 0, 0), [(1, 3, 6), (0, 0, 1152921504606846976), (0, 0, 1152921504606846976)]))]
def S_X1_join : ck_S := ([(0, (2, 1, [1])), (1, (2, 2, [1]))], [], [(0, 1000, (8, 0, [])), (0, 1001, (8, 1, [])), (0, 1002, (8, 2, []))], [(0, 0), (1, 0), (1, 0)], [], 0, 0)
theorem h_X1_join : ck_chk M_X1_join (ck_kr (mF M_X1_join) 3 0 C_X1_join) K_X1_join I_X1_join 3 31 S_X1_join = true := by decide +kernel
theorem o_X1_join : ck_ok5 C_X1_join = true := by decide +kernel
theorem a_X1_join : ck_ca cw_V RX1 cX1_join ⟨0, 0, 0, 0⟩ M_X1_join := fun _ _ _ _ _ _ _ _ _ _ _ _ _ _ _ _ _ _ _ _ h => absurd h List.not_mem_nil
theorem t_X1_join (l : Launch) : ck_met cw_V l yX1_join cX1_join 3 none ⟨0, 0, 0, 0⟩ C_X1_join :=
  ck_meth (M := M_X1_join) (rt := 0) (pre := []) false pn_X1_join rfl (fun h => by cases h) ⟨rfl, rfl, rfl, rfl, rfl⟩ ⟨rfl, rfl⟩ rfl (by decide) (by decide) (by decide) k_X1_join (tb_X1 ⟨rfl, rfl, rfl, rfl, rfl, rfl, rfl, rfl, rfl⟩) a_X1_join h_X1_join rfl
theorem hd_X1_turn : yX1_turn.cls ≠ "java/lang/invoke/MethodHandle" ∧ yX1_turn.cls ≠ "java/lang/invoke/VarHandle" ∧ (parseMethodDescriptor yX1_turn.desc).map (fun d => d.parameters.length) = some 0 := ⟨by decide, by decide, by decide +kernel⟩
theorem he_X1_turn : yX1_turn.cls ≠ "java/lang/invoke/MethodHandle" ∧ yX1_turn.cls ≠ "java/lang/invoke/VarHandle" ∧ (parseMethodDescriptor yX1_turn.desc).map (fun d => d.parameters.length + 1) = some 1 := ⟨by decide, by decide, by decide +kernel⟩
theorem pn_X1_turn : plainFor yX1_turn = true := by decide +kernel
def K_X1_turn : ck_cd := [(0, .iconst 0, 1), (1, .istore_n 1, 1), (2, .iload_n 1, 1), (3, .aload_n 0, 1), (4, .getfield 13, 3), (7, .arraylength, 1), (8, .if_icmp .ge 25, 3), (11, .aload_n 0, 1), (12, .getfield 13, 3), (15, .iload_n 1, 1), (16, .aload_n 0, 1), (17, .getfield 13, 3), (20, .iload_n 1, 1), (21, .laload, 1), (22, .ldc2_w 25, 3), (25, .lxor, 1), (26, .lastore, 1), (27, .iinc 1 1, 3), (30, .goto (-28), 3), (33, .return_, 1)]
theorem k_X1_turn : ∀ x ∈ K_X1_turn, decode cX1_turn x.1 = .ok (x.2.1, x.2.2) := by decide +kernel
def C_X1_turn : ck_C := (([(2, 1, [1])], [], [(0, 0), (1, 0)], []), [([], [], [(1, 0), (1, 0)], [])], [(2, 0)], 0, 0)
def M_X1_turn : ck_Me := (4, cw_TT, cw_SG, 2, fl_X1, pl_X1, nw_X1, kl_X1, il_X1, xl_X1, cw_al, [], [(2, 0)], (0, 0), gl_X1)
def I_X1_turn : List (Nat × ck_I) := [(2, (([(0, (2, 1, [1])), (1, (0, 2, []))], [], [], [(0, 0), (1, 0), (0, 5)], [], 0, 0), [(1, 2, 6), (0, 0, 1152921504606846976), (0, 0, 1152921504606846976)]))]
def S_X1_turn : ck_S := ([(0, (2, 1, [1]))], [], [(0, 1000, (8, 0, [])), (0, 1001, (8, 1, []))], [(0, 0), (1, 0)], [], 0, 0)
theorem h_X1_turn : ck_chk M_X1_turn (ck_kr (mF M_X1_turn) 2 0 C_X1_turn) K_X1_turn I_X1_turn 2 25 S_X1_turn = true := by decide +kernel
theorem o_X1_turn : ck_ok5 C_X1_turn = true := by decide +kernel
theorem a_X1_turn : ck_ca cw_V RX1 cX1_turn ⟨0, 0, 0, 0⟩ M_X1_turn := fun _ _ _ _ _ _ _ _ _ _ _ _ _ _ _ _ _ _ _ _ h => absurd h List.not_mem_nil
theorem t_X1_turn (l : Launch) : ck_met cw_V l yX1_turn cX1_turn 2 none ⟨0, 0, 0, 0⟩ C_X1_turn :=
  ck_meth (M := M_X1_turn) (rt := 0) (pre := []) false pn_X1_turn rfl (fun h => by cases h) ⟨rfl, rfl, rfl, rfl, rfl⟩ ⟨rfl, rfl⟩ rfl (by decide) (by decide) (by decide) k_X1_turn (tb_X1 ⟨rfl, rfl, rfl, rfl, rfl, rfl, rfl, rfl, rfl⟩) a_X1_turn h_X1_turn rfl
theorem hd_X1_imply : yX1_imply.cls ≠ "java/lang/invoke/MethodHandle" ∧ yX1_imply.cls ≠ "java/lang/invoke/VarHandle" ∧ (parseMethodDescriptor yX1_imply.desc).map (fun d => d.parameters.length) = some 1 := ⟨by decide, by decide, by decide +kernel⟩
theorem he_X1_imply : yX1_imply.cls ≠ "java/lang/invoke/MethodHandle" ∧ yX1_imply.cls ≠ "java/lang/invoke/VarHandle" ∧ (parseMethodDescriptor yX1_imply.desc).map (fun d => d.parameters.length + 1) = some 2 := ⟨by decide, by decide, by decide +kernel⟩
theorem pn_X1_imply : plainFor yX1_imply = true := by decide +kernel
def K_X1_imply : ck_cd := [(0, .aload_n 0, 1), (1, .invokevirtual 39, 3), (4, .aload_n 0, 1), (5, .aload_n 1, 1), (6, .invokevirtual 42, 3), (9, .return_, 1)]
theorem k_X1_imply : ∀ x ∈ K_X1_imply, decode cX1_imply x.1 = .ok (x.2.1, x.2.2) := by decide +kernel
def C_X1_imply : ck_C := (([(2, 1, [1]), (2, 2, [1])], [], [(0, 0), (1, 0), (1, 0)], []), [([], [], [(1, 0), (1, 0), (1, 0)], [])], [(2, 0)], 0, 0)
def M_X1_imply : ck_Me := (4, cw_TT, cw_SG, 2, fl_X1, pl_X1, nw_X1, kl_X1, il_X1, xl_X1, cw_al, [(3 * 39, 1, 1, C_X1_turn), (3 * 42, 1, 2, C_X1_join)], [(2, 0)], (0, 0), gl_X1)
def I_X1_imply : List (Nat × ck_I) := []
def S_X1_imply : ck_S := ([(0, (2, 1, [1])), (1, (2, 2, [1]))], [], [(0, 1000, (8, 0, [])), (0, 1001, (8, 1, [])), (0, 1002, (8, 2, []))], [(0, 0), (1, 0), (1, 0)], [], 0, 0)
theorem h_X1_imply : ck_chk M_X1_imply (ck_kr (mF M_X1_imply) 3 0 C_X1_imply) K_X1_imply I_X1_imply 3 11 S_X1_imply = true := by decide +kernel
theorem o_X1_imply : ck_ok5 C_X1_imply = true := by decide +kernel
theorem a_X1_imply : ck_ca cw_V RX1 cX1_imply ⟨1, 0, 0, 22⟩ M_X1_imply := fun _ l _ _ _ _ _ _ _ _ _ _ _ _ X hts htl hsw hnq =>
  (List.forall_mem_cons.mpr ⟨ck_cs_V (t_X1_turn l) X hts htl hsw hnq ⟨rfl, rfl⟩ o_X1_turn cw_good (ck_m5 tw_460 tw_461 tw_462 tw_97 tw_463) (by decide) rfl rfl rfl he_X1_turn ⟨rfl, rfl⟩ ⟨by decide, by decide⟩, (List.forall_mem_cons.mpr ⟨ck_cs_V (t_X1_join l) X hts htl hsw hnq ⟨rfl, rfl⟩ o_X1_join cw_good (ck_m5 tw_465 tw_453 tw_454 tw_97 tw_455) (by decide) rfl rfl rfl he_X1_join ⟨rfl, rfl⟩ ⟨by decide, by decide⟩, (fun _ h => absurd h List.not_mem_nil)⟩)⟩)
theorem t_X1_imply (l : Launch) : ck_met cw_V l yX1_imply cX1_imply 2 none ⟨1, 0, 0, 22⟩ C_X1_imply :=
  ck_meth (M := M_X1_imply) (rt := 0) (pre := []) false pn_X1_imply rfl (fun h => by cases h) ⟨rfl, rfl, rfl, rfl, rfl⟩ ⟨rfl, rfl⟩ rfl (by decide) (by decide) (by decide) k_X1_imply (tb_X1 ⟨rfl, rfl, rfl, rfl, rfl, rfl, rfl, rfl, rfl⟩) a_X1_imply h_X1_imply rfl
theorem hd_X7_apply : yX7_apply.cls ≠ "java/lang/invoke/MethodHandle" ∧ yX7_apply.cls ≠ "java/lang/invoke/VarHandle" ∧ (parseMethodDescriptor yX7_apply.desc).map (fun d => d.parameters.length) = some 1 := ⟨by decide, by decide, by decide +kernel⟩
theorem he_X7_apply : yX7_apply.cls ≠ "java/lang/invoke/MethodHandle" ∧ yX7_apply.cls ≠ "java/lang/invoke/VarHandle" ∧ (parseMethodDescriptor yX7_apply.desc).map (fun d => d.parameters.length + 1) = some 2 := ⟨by decide, by decide, by decide +kernel⟩
theorem pn_X7_apply : plainFor yX7_apply = true := by decide +kernel
def K_X7_apply : ck_cd := [(0, .aload_n 0, 1), (1, .getfield 35, 3), (4, .iconst 2, 1), (5, .if_icmp .ge 4, 3), (8, .return_, 1), (9, .aload_n 0, 1), (10, .dup, 1), (11, .getfield 35, 3), (14, .iconst 1, 1), (15, .isub, 1), (16, .putfield 35, 3), (19, .aload_n 0, 1), (20, .getfield 19, 3), (23, .aload_n 0, 1), (24, .getfield 35, 3), (27, .iconst 1, 1), (28, .isub, 1), (29, .aaload, 1), (30, .astore_n 2, 1), (31, .aload_n 0, 1), (32, .getfield 19, 3), (35, .aload_n 0, 1), (36, .getfield 35, 3), (39, .aaload, 1), (40, .astore_n 3, 1), (41, .iload_n 1, 1), (42, .bipush 38, 2), (44, .if_icmp .ne 11, 3), (47, .aload_n 2, 1), (48, .aload_n 3, 1), (49, .invokevirtual 77, 3), (52, .goto 22, 3), (55, .iload_n 1, 1), (56, .bipush 124, 2), (58, .if_icmp .ne 11, 3), (61, .aload_n 2, 1), (62, .aload_n 3, 1), (63, .invokevirtual 81, 3), (66, .goto 8, 3), (69, .aload_n 2, 1), (70, .aload_n 3, 1), (71, .invokevirtual 84, 3), (74, .return_, 1)]
theorem k_X7_apply : ∀ x ∈ K_X7_apply, decode cX7_apply x.1 = .ok (x.2.1, x.2.2) := by decide +kernel
def C_X7_apply : ck_C := (([(2, 1, [12]), (0, 2, [])], [], [(0, 0), (1, 0), ((-2147483648), 2147483647)], []), [([], [], [(1, 0), (1, 0), (1, 0)], [])], [(2, 0), (12, 3)], 0, 0)
def M_X7_apply : ck_Me := (4, cw_TT, cw_SG, 4, fl_X7, pl_X7, nw_X7, kl_X7, il_X7, xl_X7, cw_al, [(3 * 77, 1, 2, C_X1_meet), (3 * 81, 1, 2, C_X1_join), (3 * 84, 1, 2, C_X1_imply)], [(2, 0), (12, 3)], (0, 0), gl_X7)
def I_X7_apply : List (Nat × ck_I) := []
def S_X7_apply : ck_S := ([(0, (2, 1, [12])), (1, (0, 2, []))], [], [(0, 1000, (8, 0, [])), (0, 1001, (8, 1, [])), (0, 1002, (8, 2, []))], [(0, 0), (1, 0), ((-2147483648), 2147483647)], [], 0, 0)
theorem h_X7_apply : ck_chk M_X7_apply (ck_kr (mF M_X7_apply) 3 0 C_X7_apply) K_X7_apply I_X7_apply 3 48 S_X7_apply = true := by decide +kernel
theorem o_X7_apply : ck_ok5 C_X7_apply = true := by decide +kernel
theorem a_X7_apply : ck_ca cw_V RX7 cX7_apply ⟨2, 0, 0, 43⟩ M_X7_apply := fun _ l _ _ _ _ _ _ _ _ _ _ _ _ X hts htl hsw hnq =>
  (List.forall_mem_cons.mpr ⟨ck_cs_V (t_X1_meet l) X hts htl hsw hnq ⟨rfl, rfl⟩ o_X1_meet cw_good (ck_m5 tw_448 tw_449 tw_450 tw_97 tw_451) (by decide) rfl rfl rfl he_X1_meet ⟨rfl, rfl⟩ ⟨by decide, by decide⟩, (List.forall_mem_cons.mpr ⟨ck_cs_V (t_X1_join l) X hts htl hsw hnq ⟨rfl, rfl⟩ o_X1_join cw_good (ck_m5 tw_452 tw_453 tw_454 tw_97 tw_455) (by decide) rfl rfl rfl he_X1_join ⟨rfl, rfl⟩ ⟨by decide, by decide⟩, (List.forall_mem_cons.mpr ⟨ck_cs_V (t_X1_imply l) X hts htl hsw hnq ⟨rfl, rfl⟩ o_X1_imply cw_good (ck_m5 tw_456 tw_457 tw_458 tw_97 tw_459) (by decide) rfl rfl rfl he_X1_imply ⟨rfl, rfl⟩ ⟨by decide, by decide⟩, (fun _ h => absurd h List.not_mem_nil)⟩)⟩)⟩)
theorem t_X7_apply (l : Launch) : ck_met cw_V l yX7_apply cX7_apply 4 none ⟨2, 0, 0, 43⟩ C_X7_apply :=
  ck_meth (M := M_X7_apply) (rt := 0) (pre := []) false pn_X7_apply rfl (fun h => by cases h) ⟨rfl, rfl, rfl, rfl, rfl⟩ ⟨rfl, rfl⟩ rfl (by decide) (by decide) (by decide) k_X7_apply (tb_X7 ⟨rfl, rfl, rfl, rfl, rfl, rfl, rfl, rfl, rfl⟩) a_X7_apply h_X7_apply rfl
theorem hd_X7_bind : yX7_bind.cls ≠ "java/lang/invoke/MethodHandle" ∧ yX7_bind.cls ≠ "java/lang/invoke/VarHandle" ∧ (parseMethodDescriptor yX7_bind.desc).map (fun d => d.parameters.length) = some 1 := ⟨by decide, by decide, by decide +kernel⟩
theorem he_X7_bind : yX7_bind.cls ≠ "java/lang/invoke/MethodHandle" ∧ yX7_bind.cls ≠ "java/lang/invoke/VarHandle" ∧ (parseMethodDescriptor yX7_bind.desc).map (fun d => d.parameters.length + 1) = some 2 := ⟨by decide, by decide, by decide +kernel⟩
theorem pn_X7_bind : plainFor yX7_bind = true := by decide +kernel
def K_X7_bind : ck_cd := [(0, .aload_n 0, 1), (1, .getfield 31, 3), (4, .ifCond .le 55, 3), (7, .aload_n 0, 1), (8, .getfield 9, 3), (11, .aload_n 0, 1), (12, .getfield 31, 3), (15, .iconst 1, 1), (16, .isub, 1), (17, .iaload, 1), (18, .invokestatic 27, 3), (21, .iload_n 1, 1), (22, .if_icmp .lt 37, 3), (25, .aload_n 0, 1), (26, .dup, 1), (27, .getfield 31, 3), (30, .iconst 1, 1), (31, .isub, 1), (32, .putfield 31, 3), (35, .aload_n 0, 1), (36, .getfield 35, 3), (39, .iconst 1, 1), (40, .if_icmp .le (-40), 3), (43, .aload_n 0, 1), (44, .aload_n 0, 1), (45, .getfield 9, 3), (48, .aload_n 0, 1), (49, .getfield 31, 3), (52, .iaload, 1), (53, .invokevirtual 74, 3), (56, .goto (-56), 3), (59, .return_, 1)]
theorem k_X7_bind : ∀ x ∈ K_X7_bind, decode cX7_bind x.1 = .ok (x.2.1, x.2.2) := by decide +kernel
def C_X7_bind : ck_C := (([(2, 1, [12]), (0, 2, [])], [], [(0, 0), (1, 0), (1, 3)], []), [([], [], [(1, 0), (1, 0), (1, 0)], [])], [(2, 0), (12, 2), (12, 3)], 0, 0)
def M_X7_bind : ck_Me := (4, cw_TT, cw_SG, 2, fl_X7, pl_X7, nw_X7, kl_X7, il_X7, xl_X7, cw_al, [(3 * 27 + 1, 0, 1, C_X7_rank), (3 * 74, 12, 2, C_X7_apply)], [(2, 0), (12, 2), (12, 3)], (0, 0), gl_X7)
def I_X7_bind : List (Nat × ck_I) := [(0, (([(0, (2, 1, [12])), (1, (0, 2, []))], [], [(12, 2, (0, 3, []))], [(0, 0), (1, 0), (1, 3), (0, 60)], [], 0, 0), [(2, 3, (-1)), (0, 0, 1152921504606846976), (0, 0, 1152921504606846976)]))]
def S_X7_bind : ck_S := ([(0, (2, 1, [12])), (1, (0, 2, []))], [], [(12, 2, (0, 3, [])), (0, 1000, (8, 0, [])), (0, 1001, (8, 1, [])), (0, 1002, (8, 2, []))], [(0, 0), (1, 0), (1, 3), (0, 60)], [], 0, 0)
theorem h_X7_bind : ck_chk M_X7_bind (ck_kr (mF M_X7_bind) 3 0 C_X7_bind) K_X7_bind I_X7_bind 3 37 S_X7_bind = true := by decide +kernel
theorem o_X7_bind : ck_ok5 C_X7_bind = true := by decide +kernel
theorem a_X7_bind : ck_ca cw_V RX7 cX7_bind ⟨3, 0, 0, 66⟩ M_X7_bind := fun _ l _ _ _ _ _ _ _ _ _ _ _ _ X hts htl hsw hnq =>
  (List.forall_mem_cons.mpr ⟨ck_cs_S (t_X7_rank l) X hts htl hsw hnq ⟨rfl, rfl⟩ o_X7_rank cw_good (ck_m4 tw_432 tw_433 tw_98 tw_434) hd_X7_rank ⟨rfl, rfl⟩ ⟨by decide, by decide⟩, (List.forall_mem_cons.mpr ⟨ck_cs_V (t_X7_apply l) X hts htl hsw hnq ⟨rfl, rfl⟩ o_X7_apply cw_good (ck_m5 tw_444 tw_446 tw_2 tw_98 tw_447) (by decide) rfl rfl rfl he_X7_apply ⟨rfl, rfl⟩ ⟨by decide, by decide⟩, (fun _ h => absurd h List.not_mem_nil)⟩)⟩)
theorem t_X7_bind (l : Launch) : ck_met cw_V l yX7_bind cX7_bind 2 none ⟨3, 0, 0, 66⟩ C_X7_bind :=
  ck_meth (M := M_X7_bind) (rt := 0) (pre := [(12, 2)]) false pn_X7_bind rfl (fun h => by cases h) ⟨rfl, rfl, rfl, rfl, rfl⟩ ⟨rfl, rfl⟩ rfl (by decide) (by decide) (by decide) k_X7_bind (tb_X7 ⟨rfl, rfl, rfl, rfl, rfl, rfl, rfl, rfl, rfl⟩) a_X7_bind h_X7_bind rfl
