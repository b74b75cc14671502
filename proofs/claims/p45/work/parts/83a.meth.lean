/-! methods, 0 -/
theorem hd_X11_isLane : yX11_isLane.cls ≠ "java/lang/invoke/MethodHandle" ∧ yX11_isLane.cls ≠ "java/lang/invoke/VarHandle" ∧ (parseMethodDescriptor yX11_isLane.desc).map (fun d => d.parameters.length) = some 1 := ⟨by decide, by decide, by decide +kernel⟩
theorem he_X11_isLane : yX11_isLane.cls ≠ "java/lang/invoke/MethodHandle" ∧ yX11_isLane.cls ≠ "java/lang/invoke/VarHandle" ∧ (parseMethodDescriptor yX11_isLane.desc).map (fun d => d.parameters.length + 1) = some 2 := ⟨by decide, by decide, by decide +kernel⟩
theorem pn_X11_isLane : plainFor yX11_isLane = true := by decide +kernel
def K_X11_isLane : ck_cd := [(0, .iload_n 0, 1), (1, .ifCond .lt 12, 3), (4, .iload_n 0, 1), (5, .iconst 3, 1), (6, .if_icmp .ge 7, 3), (9, .iconst 1, 1), (10, .goto 4, 3), (13, .iconst 0, 1), (14, .ireturn, 1)]
theorem k_X11_isLane : ∀ x ∈ K_X11_isLane, decode cX11_isLane x.1 = .ok (x.2.1, x.2.2) := by decide +kernel
def C_X11_isLane : ck_C := (([(0, 1, [])], [], [(0, 0), ((-2147483648), 2147483647)], []), [([(0, 2, [])], [], [(1, 0), (1, 0), (1, 1)], [(1, 0, 2), (0, 1, 0)]), ([(0, 2, [])], [], [(1, 0), (1, 0), (0, 0)], [])], [], 0, 0)
def M_X11_isLane : ck_Me := (4, cw_TT, cw_SG, 1, fl_X11, pl_X11, nw_X11, kl_X11, il_X11, xl_X11, cw_al, [], [], (0, 0), gl_X11)
def I_X11_isLane : List (Nat × ck_I) := []
def S_X11_isLane : ck_S := ([(0, (0, 1, []))], [], [(0, 1000, (8, 0, [])), (0, 1001, (8, 1, []))], [(0, 0), ((-2147483648), 2147483647)], [], 0, 0)
theorem h_X11_isLane : ck_chk M_X11_isLane (ck_kr (mF M_X11_isLane) 2 2 C_X11_isLane) K_X11_isLane I_X11_isLane 2 14 S_X11_isLane = true := by decide +kernel
theorem o_X11_isLane : ck_ok5 C_X11_isLane = true := by decide +kernel
theorem a_X11_isLane : ck_ca cw_V RX11 cX11_isLane ⟨0, 0, 0, 0⟩ M_X11_isLane := fun _ _ _ _ _ _ _ _ _ _ _ _ _ _ _ _ _ _ _ _ h => absurd h List.not_mem_nil
theorem t_X11_isLane (l : Launch) : ck_met cw_V l yX11_isLane cX11_isLane 1 (some .boolean) ⟨0, 0, 0, 0⟩ C_X11_isLane :=
  ck_meth (M := M_X11_isLane) (rt := 2) (pre := []) false pn_X11_isLane rfl (fun h => by cases h) ⟨rfl, rfl, rfl, rfl, rfl⟩ ⟨rfl, rfl⟩ rfl (by decide) (by decide) (by decide) k_X11_isLane (tb_X11 ⟨rfl, rfl, rfl, rfl, rfl, rfl, rfl, rfl, rfl⟩) a_X11_isLane h_X11_isLane rfl
theorem hd_X11_faulted : yX11_faulted.cls ≠ "java/lang/invoke/MethodHandle" ∧ yX11_faulted.cls ≠ "java/lang/invoke/VarHandle" ∧ (parseMethodDescriptor yX11_faulted.desc).map (fun d => d.parameters.length) = some 1 := ⟨by decide, by decide, by decide +kernel⟩
theorem he_X11_faulted : yX11_faulted.cls ≠ "java/lang/invoke/MethodHandle" ∧ yX11_faulted.cls ≠ "java/lang/invoke/VarHandle" ∧ (parseMethodDescriptor yX11_faulted.desc).map (fun d => d.parameters.length + 1) = some 2 := ⟨by decide, by decide, by decide +kernel⟩
theorem pn_X11_faulted : plainFor yX11_faulted = true := by decide +kernel
def K_X11_faulted : ck_cd := [(0, .aload_n 0, 1), (1, .iload_n 1, 1), (2, .putfield 93, 3), (5, .bipush (-10), 2), (7, .iload_n 1, 1), (8, .isub, 1), (9, .ireturn, 1)]
theorem k_X11_faulted : ∀ x ∈ K_X11_faulted, decode cX11_faulted x.1 = .ok (x.2.1, x.2.2) := by decide +kernel
def C_X11_faulted : ck_C := (([(2, 1, [11]), (0, 2, [])], [], [(0, 0), (1, 0), ((-2147483648), 2147483647)], []), [([(0, 3, [])], [], [(1, 0), (1, 0), (1, 0), ((-2147483648), 2147483647)], [])], [(11, 14)], 0, 0)
def M_X11_faulted : ck_Me := (4, cw_TT, cw_SG, 2, fl_X11, pl_X11, nw_X11, kl_X11, il_X11, xl_X11, cw_al, [], [(11, 14)], (0, 0), gl_X11)
def I_X11_faulted : List (Nat × ck_I) := []
def S_X11_faulted : ck_S := ([(0, (2, 1, [11])), (1, (0, 2, []))], [], [(0, 1000, (8, 0, [])), (0, 1001, (8, 1, [])), (0, 1002, (8, 2, []))], [(0, 0), (1, 0), ((-2147483648), 2147483647)], [], 0, 0)
theorem h_X11_faulted : ck_chk M_X11_faulted (ck_kr (mF M_X11_faulted) 3 1 C_X11_faulted) K_X11_faulted I_X11_faulted 3 12 S_X11_faulted = true := by decide +kernel
theorem o_X11_faulted : ck_ok5 C_X11_faulted = true := by decide +kernel
theorem a_X11_faulted : ck_ca cw_V RX11 cX11_faulted ⟨0, 0, 0, 0⟩ M_X11_faulted := fun _ _ _ _ _ _ _ _ _ _ _ _ _ _ _ _ _ _ _ _ h => absurd h List.not_mem_nil
theorem t_X11_faulted (l : Launch) : ck_met cw_V l yX11_faulted cX11_faulted 2 (some .int) ⟨0, 0, 0, 0⟩ C_X11_faulted :=
  ck_meth (M := M_X11_faulted) (rt := 1) (pre := []) false pn_X11_faulted rfl (fun h => by cases h) ⟨rfl, rfl, rfl, rfl, rfl⟩ ⟨rfl, rfl⟩ rfl (by decide) (by decide) (by decide) k_X11_faulted (tb_X11 ⟨rfl, rfl, rfl, rfl, rfl, rfl, rfl, rfl, rfl⟩) a_X11_faulted h_X11_faulted rfl
theorem hd_X7_isOperand : yX7_isOperand.cls ≠ "java/lang/invoke/MethodHandle" ∧ yX7_isOperand.cls ≠ "java/lang/invoke/VarHandle" ∧ (parseMethodDescriptor yX7_isOperand.desc).map (fun d => d.parameters.length) = some 1 := ⟨by decide, by decide, by decide +kernel⟩
theorem he_X7_isOperand : yX7_isOperand.cls ≠ "java/lang/invoke/MethodHandle" ∧ yX7_isOperand.cls ≠ "java/lang/invoke/VarHandle" ∧ (parseMethodDescriptor yX7_isOperand.desc).map (fun d => d.parameters.length + 1) = some 2 := ⟨by decide, by decide, by decide +kernel⟩
theorem pn_X7_isOperand : plainFor yX7_isOperand = true := by decide +kernel
def K_X7_isOperand : ck_cd := [(0, .iload_n 0, 1), (1, .bipush 97, 2), (3, .if_icmp .lt 9, 3), (6, .iload_n 0, 1), (7, .bipush 104, 2), (9, .if_icmp .le 15, 3), (12, .iload_n 0, 1), (13, .bipush 48, 2), (15, .if_icmp .eq 9, 3), (18, .iload_n 0, 1), (19, .bipush 49, 2), (21, .if_icmp .ne 7, 3), (24, .iconst 1, 1), (25, .goto 4, 3), (28, .iconst 0, 1), (29, .ireturn, 1)]
theorem k_X7_isOperand : ∀ x ∈ K_X7_isOperand, decode cX7_isOperand x.1 = .ok (x.2.1, x.2.2) := by decide +kernel
def C_X7_isOperand : ck_C := (([(0, 1, [])], [], [(0, 0), ((-2147483648), 2147483647)], []), [([(0, 2, [])], [], [(1, 0), (1, 0), (0, 0)], []), ([(0, 2, [])], [], [(1, 0), (1, 0), (1, 1)], [(1, 0, 104), (0, 1, (-48))])], [], 0, 0)
def M_X7_isOperand : ck_Me := (4, cw_TT, cw_SG, 1, fl_X7, pl_X7, nw_X7, kl_X7, il_X7, xl_X7, cw_al, [], [], (0, 0), gl_X7)
def I_X7_isOperand : List (Nat × ck_I) := []
def S_X7_isOperand : ck_S := ([(0, (0, 1, []))], [], [(0, 1000, (8, 0, [])), (0, 1001, (8, 1, []))], [(0, 0), ((-2147483648), 2147483647)], [], 0, 0)
theorem h_X7_isOperand : ck_chk M_X7_isOperand (ck_kr (mF M_X7_isOperand) 2 2 C_X7_isOperand) K_X7_isOperand I_X7_isOperand 2 21 S_X7_isOperand = true := by decide +kernel
theorem o_X7_isOperand : ck_ok5 C_X7_isOperand = true := by decide +kernel
theorem a_X7_isOperand : ck_ca cw_V RX7 cX7_isOperand ⟨0, 0, 0, 0⟩ M_X7_isOperand := fun _ _ _ _ _ _ _ _ _ _ _ _ _ _ _ _ _ _ _ _ h => absurd h List.not_mem_nil
theorem t_X7_isOperand (l : Launch) : ck_met cw_V l yX7_isOperand cX7_isOperand 1 (some .boolean) ⟨0, 0, 0, 0⟩ C_X7_isOperand :=
  ck_meth (M := M_X7_isOperand) (rt := 2) (pre := []) false pn_X7_isOperand rfl (fun h => by cases h) ⟨rfl, rfl, rfl, rfl, rfl⟩ ⟨rfl, rfl⟩ rfl (by decide) (by decide) (by decide) k_X7_isOperand (tb_X7 ⟨rfl, rfl, rfl, rfl, rfl, rfl, rfl, rfl, rfl⟩) a_X7_isOperand h_X7_isOperand rfl
theorem hd_X7_rank : yX7_rank.cls ≠ "java/lang/invoke/MethodHandle" ∧ yX7_rank.cls ≠ "java/lang/invoke/VarHandle" ∧ (parseMethodDescriptor yX7_rank.desc).map (fun d => d.parameters.length) = some 1 := ⟨by decide, by decide, by decide +kernel⟩
theorem he_X7_rank : yX7_rank.cls ≠ "java/lang/invoke/MethodHandle" ∧ yX7_rank.cls ≠ "java/lang/invoke/VarHandle" ∧ (parseMethodDescriptor yX7_rank.desc).map (fun d => d.parameters.length + 1) = some 2 := ⟨by decide, by decide, by decide +kernel⟩
theorem pn_X7_rank : plainFor yX7_rank = true := by decide +kernel
def K_X7_rank : ck_cd := [(0, .iload_n 0, 1), (1, .bipush 38, 2), (3, .if_icmp .ne 7, 3), (6, .iconst 3, 1), (7, .goto 24, 3), (10, .iload_n 0, 1), (11, .bipush 124, 2), (13, .if_icmp .ne 7, 3), (16, .iconst 2, 1), (17, .goto 14, 3), (20, .iload_n 0, 1), (21, .bipush 62, 2), (23, .if_icmp .ne 7, 3), (26, .iconst 1, 1), (27, .goto 4, 3), (30, .iconst 0, 1), (31, .ireturn, 1)]
theorem k_X7_rank : ∀ x ∈ K_X7_rank, decode cX7_rank x.1 = .ok (x.2.1, x.2.2) := by decide +kernel
def C_X7_rank : ck_C := (([(0, 1, [])], [], [(0, 0), ((-2147483648), 2147483647)], []), [([(0, 2, [])], [], [(1, 0), (1, 0), (3, 3)], [(1, 0, 38), (0, 1, (-38))]), ([(0, 2, [])], [], [(1, 0), (1, 0), (2, 2)], [(1, 0, 124), (0, 1, (-124))]), ([(0, 2, [])], [], [(1, 0), (1, 0), (1, 1)], [(1, 0, 62), (0, 1, (-62))]), ([(0, 2, [])], [], [(1, 0), (1, 0), (0, 0)], [])], [], 0, 0)
def M_X7_rank : ck_Me := (4, cw_TT, cw_SG, 1, fl_X7, pl_X7, nw_X7, kl_X7, il_X7, xl_X7, cw_al, [], [], (0, 0), gl_X7)
def I_X7_rank : List (Nat × ck_I) := []
def S_X7_rank : ck_S := ([(0, (0, 1, []))], [], [(0, 1000, (8, 0, [])), (0, 1001, (8, 1, []))], [(0, 0), ((-2147483648), 2147483647)], [], 0, 0)
theorem h_X7_rank : ck_chk M_X7_rank (ck_kr (mF M_X7_rank) 2 1 C_X7_rank) K_X7_rank I_X7_rank 2 22 S_X7_rank = true := by decide +kernel
theorem o_X7_rank : ck_ok5 C_X7_rank = true := by decide +kernel
theorem a_X7_rank : ck_ca cw_V RX7 cX7_rank ⟨0, 0, 0, 0⟩ M_X7_rank := fun _ _ _ _ _ _ _ _ _ _ _ _ _ _ _ _ _ _ _ _ h => absurd h List.not_mem_nil
theorem t_X7_rank (l : Launch) : ck_met cw_V l yX7_rank cX7_rank 1 (some .int) ⟨0, 0, 0, 0⟩ C_X7_rank :=
  ck_meth (M := M_X7_rank) (rt := 1) (pre := []) false pn_X7_rank rfl (fun h => by cases h) ⟨rfl, rfl, rfl, rfl, rfl⟩ ⟨rfl, rfl⟩ rfl (by decide) (by decide) (by decide) k_X7_rank (tb_X7 ⟨rfl, rfl, rfl, rfl, rfl, rfl, rfl, rfl, rfl⟩) a_X7_rank h_X7_rank rfl
theorem hd_X7_firstFault : yX7_firstFault.cls ≠ "java/lang/invoke/MethodHandle" ∧ yX7_firstFault.cls ≠ "java/lang/invoke/VarHandle" ∧ (parseMethodDescriptor yX7_firstFault.desc).map (fun d => d.parameters.length) = some 3 := ⟨by decide, by decide, by decide +kernel⟩
theorem he_X7_firstFault : yX7_firstFault.cls ≠ "java/lang/invoke/MethodHandle" ∧ yX7_firstFault.cls ≠ "java/lang/invoke/VarHandle" ∧ (parseMethodDescriptor yX7_firstFault.desc).map (fun d => d.parameters.length + 1) = some 4 := ⟨by decide, by decide, by decide +kernel⟩
theorem pn_X7_firstFault : plainFor yX7_firstFault = true := by decide +kernel
def K_X7_firstFault : ck_cd := [(0, .iconst 1, 1), (1, .istore 4, 2), (3, .iconst 0, 1), (4, .istore 5, 2), (6, .iconst 0, 1), (7, .istore 6, 2), (9, .iload 6, 2), (11, .iload_n 3, 1), (12, .if_icmp .ge 114, 3), (15, .iload_n 2, 1), (16, .iload 6, 2), (18, .iadd, 1), (19, .istore 7, 2), (21, .iload 7, 2), (23, .ifCond .lt 17, 3), (26, .iload 7, 2), (28, .aload_n 1, 1), (29, .arraylength, 1), (30, .if_icmp .ge 10, 3), (33, .aload_n 1, 1), (34, .iload 7, 2), (36, .iaload, 1), (37, .goto 4, 3), (40, .iconst 0, 1), (41, .istore 8, 2), (43, .iload 4, 2), (45, .ifCond .eq 40, 3), (48, .iload 8, 2), (50, .bipush 40, 2), (52, .if_icmp .ne 9, 3), (55, .iinc 5 1, 3), (58, .goto 62, 3), (61, .iload 8, 2), (63, .invokestatic 23, 3), (66, .ifCond .eq 9, 3), (69, .iconst 0, 1), (70, .istore 4, 2), (72, .goto 48, 3), (75, .iload 8, 2), (77, .bipush 45, 2), (79, .if_icmp .eq 41, 3), (82, .iload 6, 2), (84, .ireturn, 1), (85, .iload 8, 2), (87, .invokestatic 27, 3), (90, .ifCond .le 9, 3), (93, .iconst 1, 1), (94, .istore 4, 2), (96, .goto 24, 3), (99, .iload 8, 2), (101, .bipush 41, 2), (103, .if_icmp .ne 14, 3), (106, .iload 5, 2), (108, .ifCond .le 9, 3), (111, .iinc 5 (-1), 3), (114, .goto 6, 3), (117, .iload 6, 2), (119, .ireturn, 1), (120, .iinc 6 1, 3), (123, .goto (-114), 3), (126, .iload 4, 2), (128, .ifCond .ne 8, 3), (131, .iload 5, 2), (133, .ifCond .le 7, 3), (136, .iload_n 3, 1), (137, .goto 4, 3), (140, .iconst (-1), 1), (141, .ireturn, 1)]
theorem k_X7_firstFault : ∀ x ∈ K_X7_firstFault, decode cX7_firstFault x.1 = .ok (x.2.1, x.2.2) := by decide +kernel
def C_X7_firstFault : ck_C := (([(2, 1, [12]), (2, 2, [20]), (0, 3, []), (0, 4, [])], [], [(0, 0), (1, 0), (1, 0), (0, 60), (0, 2147483647)], []), [([(0, 5, [])], [], [(1, 0), (1, 0), (1, 0), (1, 0), (1, 0), (0, 2147483647)], [(5, 4, 0)]), ([(0, 5, [])], [], [(1, 0), (1, 0), (1, 0), (1, 0), (1, 0), ((-1), (-1))], [])], [], 0, 0)
def M_X7_firstFault : ck_Me := (4, cw_TT, cw_SG, 9, fl_X7, pl_X7, nw_X7, kl_X7, il_X7, xl_X7, cw_al, [(3 * 23 + 1, 0, 1, C_X7_isOperand), (3 * 27 + 1, 0, 1, C_X7_rank)], [], (0, 0), gl_X7)
def I_X7_firstFault : List (Nat × ck_I) := [(9, (([(1, (2, 2, [20])), (2, (0, 3, [])), (3, (0, 4, [])), (4, (0, 5, [])), (5, (0, 6, [])), (6, (0, 7, []))], [], [], [(0, 0), (1, 0), (1, 0), (0, 60), (0, 2147483647), (0, 1), ((-2147483648), 2147483647), (0, 2147483647)], [(7, 4, 0)], 0, 0), [(1, 7, 2147483648), (0, 0, 1152921504606846976), (0, 0, 1152921504606846976)]))]
def S_X7_firstFault : ck_S := ([(0, (2, 1, [12])), (1, (2, 2, [20])), (2, (0, 3, [])), (3, (0, 4, []))], [], [(0, 1000, (8, 0, [])), (0, 1001, (8, 1, [])), (0, 1002, (8, 2, [])), (0, 1003, (8, 3, [])), (0, 1004, (8, 4, []))], [(0, 0), (1, 0), (1, 0), (0, 60), (0, 2147483647)], [], 0, 0)
theorem h_X7_firstFault : ck_chk M_X7_firstFault (ck_kr (mF M_X7_firstFault) 5 1 C_X7_firstFault) K_X7_firstFault I_X7_firstFault 5 73 S_X7_firstFault = true := by decide +kernel
theorem o_X7_firstFault : ck_ok5 C_X7_firstFault = true := by decide +kernel
theorem a_X7_firstFault : ck_ca cw_V RX7 cX7_firstFault ⟨1, 0, 0, 20⟩ M_X7_firstFault := fun _ l _ _ _ _ _ _ _ _ _ _ _ _ X hts htl hsw hnq =>
  (List.forall_mem_cons.mpr ⟨ck_cs_S (t_X7_isOperand l) X hts htl hsw hnq ⟨rfl, rfl⟩ o_X7_isOperand cw_good (ck_m4 tw_429 tw_430 tw_98 tw_431) hd_X7_isOperand ⟨rfl, rfl⟩ ⟨by decide, by decide⟩, (List.forall_mem_cons.mpr ⟨ck_cs_S (t_X7_rank l) X hts htl hsw hnq ⟨rfl, rfl⟩ o_X7_rank cw_good (ck_m4 tw_432 tw_433 tw_98 tw_434) hd_X7_rank ⟨rfl, rfl⟩ ⟨by decide, by decide⟩, (fun _ h => absurd h List.not_mem_nil)⟩)⟩)
theorem t_X7_firstFault (l : Launch) : ck_met cw_V l yX7_firstFault cX7_firstFault 9 (some .int) ⟨1, 0, 0, 20⟩ C_X7_firstFault :=
  ck_meth (M := M_X7_firstFault) (rt := 1) (pre := []) false pn_X7_firstFault rfl (fun h => by cases h) ⟨rfl, rfl, rfl, rfl, rfl⟩ ⟨rfl, rfl⟩ rfl (by decide) (by decide) (by decide) k_X7_firstFault (tb_X7 ⟨rfl, rfl, rfl, rfl, rfl, rfl, rfl, rfl, rfl⟩) a_X7_firstFault h_X7_firstFault rfl
theorem hd_J9_max_7cf53 : yJ9_max_7cf53.cls ≠ "java/lang/invoke/MethodHandle" ∧ yJ9_max_7cf53.cls ≠ "java/lang/invoke/VarHandle" ∧ (parseMethodDescriptor yJ9_max_7cf53.desc).map (fun d => d.parameters.length) = some 2 := ⟨by decide, by decide, by decide +kernel⟩
theorem he_J9_max_7cf53 : yJ9_max_7cf53.cls ≠ "java/lang/invoke/MethodHandle" ∧ yJ9_max_7cf53.cls ≠ "java/lang/invoke/VarHandle" ∧ (parseMethodDescriptor yJ9_max_7cf53.desc).map (fun d => d.parameters.length + 1) = some 3 := ⟨by decide, by decide, by decide +kernel⟩
theorem pn_J9_max_7cf53 : plainFor yJ9_max_7cf53 = true := by decide +kernel
def K_J9_max_7cf53 : ck_cd := [(0, .iload_n 0, 1), (1, .iload_n 1, 1), (2, .if_icmp .lt 7, 3), (5, .iload_n 0, 1), (6, .goto 4, 3), (9, .iload_n 1, 1), (10, .ireturn, 1)]
theorem k_J9_max_7cf53 : ∀ x ∈ K_J9_max_7cf53, decode cJ9_max_7cf53 x.1 = .ok (x.2.1, x.2.2) := by decide +kernel
def C_J9_max_7cf53 : ck_C := (([(0, 1, []), (0, 2, [])], [], [(0, 0), ((-2147483648), 2147483647), ((-2147483648), 2147483647)], []), [([(0, 3, [])], [], [(1, 0), (1, 0), (1, 0), ((-2147483648), 2147483647)], [(3, 1, 0), (1, 3, 0), (2, 3, 0), (2, 1, 0)]), ([(0, 3, [])], [], [(1, 0), (1, 0), (1, 0), ((-2147483647), 2147483647)], [(1, 0, 2147483646), (0, 2, 2147483647), (3, 2, 0), (1, 3, (-1)), (1, 2, (-1)), (2, 3, 0)])], [], 0, 0)
def M_J9_max_7cf53 : ck_Me := (4, cw_TT, cw_SG, 2, fl_J9, pl_J9, nw_J9, kl_J9, il_J9, xl_J9, cw_al, [], [], (0, 0), gl_J9)
def I_J9_max_7cf53 : List (Nat × ck_I) := []
def S_J9_max_7cf53 : ck_S := ([(0, (0, 1, [])), (1, (0, 2, []))], [], [(0, 1000, (8, 0, [])), (0, 1001, (8, 1, [])), (0, 1002, (8, 2, []))], [(0, 0), ((-2147483648), 2147483647), ((-2147483648), 2147483647)], [], 0, 0)
theorem h_J9_max_7cf53 : ck_chk M_J9_max_7cf53 (ck_kr (mF M_J9_max_7cf53) 3 1 C_J9_max_7cf53) K_J9_max_7cf53 I_J9_max_7cf53 3 12 S_J9_max_7cf53 = true := by decide +kernel
theorem o_J9_max_7cf53 : ck_ok5 C_J9_max_7cf53 = true := by decide +kernel
theorem a_J9_max_7cf53 : ck_ca cw_V RJ9 cJ9_max_7cf53 ⟨0, 0, 0, 0⟩ M_J9_max_7cf53 := fun _ _ _ _ _ _ _ _ _ _ _ _ _ _ _ _ _ _ _ _ h => absurd h List.not_mem_nil
theorem t_J9_max_7cf53 (l : Launch) : ck_met cw_V l yJ9_max_7cf53 cJ9_max_7cf53 2 (some .int) ⟨0, 0, 0, 0⟩ C_J9_max_7cf53 :=
  ck_meth (M := M_J9_max_7cf53) (rt := 1) (pre := []) false pn_J9_max_7cf53 rfl (fun h => by cases h) ⟨rfl, rfl, rfl, rfl, rfl⟩ ⟨rfl, rfl⟩ rfl (by decide) (by decide) (by decide) k_J9_max_7cf53 (tb_J9 ⟨rfl, rfl, rfl, rfl, rfl, rfl, rfl, rfl, rfl⟩) a_J9_max_7cf53 h_J9_max_7cf53 rfl
theorem hd_X1_meet : yX1_meet.cls ≠ "java/lang/invoke/MethodHandle" ∧ yX1_meet.cls ≠ "java/lang/invoke/VarHandle" ∧ (parseMethodDescriptor yX1_meet.desc).map (fun d => d.parameters.length) = some 1 := ⟨by decide, by decide, by decide +kernel⟩
theorem he_X1_meet : yX1_meet.cls ≠ "java/lang/invoke/MethodHandle" ∧ yX1_meet.cls ≠ "java/lang/invoke/VarHandle" ∧ (parseMethodDescriptor yX1_meet.desc).map (fun d => d.parameters.length + 1) = some 2 := ⟨by decide, by decide, by decide +kernel⟩
theorem pn_X1_meet : plainFor yX1_meet = true := by decide +kernel
def K_X1_meet : ck_cd := [(0, .iconst 0, 1), (1, .istore_n 2, 1), (2, .iload_n 2, 1), (3, .aload_n 0, 1), (4, .getfield 13, 3), (7, .arraylength, 1), (8, .if_icmp .ge 33, 3), (11, .iload_n 2, 1), (12, .aload_n 1, 1), (13, .getfield 13, 3), (16, .arraylength, 1), (17, .if_icmp .ge 24, 3), (20, .aload_n 0, 1), (21, .getfield 13, 3), (24, .iload_n 2, 1), (25, .dup2, 1), (26, .laload, 1), (27, .aload_n 1, 1), (28, .getfield 13, 3), (31, .iload_n 2, 1), (32, .laload, 1), (33, .land, 1), (34, .lastore, 1), (35, .iinc 2 1, 3), (38, .goto (-36), 3), (41, .return_, 1)]
theorem k_X1_meet : ∀ x ∈ K_X1_meet, decode cX1_meet x.1 = .ok (x.2.1, x.2.2) := by decide +kernel
def C_X1_meet : ck_C := (([(2, 1, [1]), (2, 2, [1])], [], [(0, 0), (1, 0), (1, 0)], []), [([], [], [(1, 0), (1, 0), (1, 0)], [])], [(2, 0)], 0, 0)
def M_X1_meet : ck_Me := (4, cw_TT, cw_SG, 3, fl_X1, pl_X1, nw_X1, kl_X1, il_X1, xl_X1, cw_al, [], [(2, 0)], (0, 0), gl_X1)
def I_X1_meet : List (Nat × ck_I) := [(2, (([(0, (2, 1, [1])), (1, (2, 2, [1])), (2, (0, 3, []))], [], [], [(0, 0), (1, 0), (1, 0), (0, 5)], [], 0, 0), [(1, 3, 6), (0, 0, 1152921504606846976), (0, 0, 1152921504606846976)]))]
def S_X1_meet : ck_S := ([(0, (2, 1, [1])), (1, (2, 2, [1]))], [], [(0, 1000, (8, 0, [])), (0, 1001, (8, 1, [])), (0, 1002, (8, 2, []))], [(0, 0), (1, 0), (1, 0)], [], 0, 0)
theorem h_X1_meet : ck_chk M_X1_meet (ck_kr (mF M_X1_meet) 3 0 C_X1_meet) K_X1_meet I_X1_meet 3 31 S_X1_meet = true := by decide +kernel
theorem o_X1_meet : ck_ok5 C_X1_meet = true := by decide +kernel
theorem a_X1_meet : ck_ca cw_V RX1 cX1_meet ⟨0, 0, 0, 0⟩ M_X1_meet := fun _ _ _ _ _ _ _ _ _ _ _ _ _ _ _ _ _ _ _ _ h => absurd h List.not_mem_nil
theorem t_X1_meet (l : Launch) : ck_met cw_V l yX1_meet cX1_meet 3 none ⟨0, 0, 0, 0⟩ C_X1_meet :=
  ck_meth (M := M_X1_meet) (rt := 0) (pre := []) false pn_X1_meet rfl (fun h => by cases h) ⟨rfl, rfl, rfl, rfl, rfl⟩ ⟨rfl, rfl⟩ rfl (by decide) (by decide) (by decide) k_X1_meet (tb_X1 ⟨rfl, rfl, rfl, rfl, rfl, rfl, rfl, rfl, rfl⟩) a_X1_meet h_X1_meet rfl
theorem hd_X1_join : yX1_join.cls ≠ "java/lang/invoke/MethodHandle" ∧ yX1_join.cls ≠ "java/lang/invoke/VarHandle" ∧ (parseMethodDescriptor yX1_join.desc).map (fun d => d.parameters.length) = some 1 := ⟨by decide, by decide, by decide +kernel⟩
theorem he_X1_join : yX1_join.cls ≠ "java/lang/invoke/MethodHandle" ∧ yX1_join.cls ≠ "java/lang/invoke/VarHandle" ∧ (parseMethodDescriptor yX1_join.desc).map (fun d => d.parameters.length + 1) = some 2 := ⟨by decide, by decide, by decide +kernel⟩
theorem pn_X1_join : plainFor yX1_join = true := by decide +kernel
def K_X1_join : ck_cd := [(0, .iconst 0, 1), (1, .istore_n 2, 1), (2, .iload_n 2, 1), (3, .aload_n 0, 1), (4, .getfield 13, 3), (7, .arraylength, 1), (8, .if_icmp .ge 33, 3), (11, .iload_n 2, 1), (12, .aload_n 1, 1), (13, .getfield 13, 3), (16, .arraylength, 1), (17, .if_icmp .ge 24, 3), (20, .aload_n 0, 1), (21, .getfield 13, 3), (24, .iload_n 2, 1), (25, .dup2, 1), (26, .laload, 1), (27, .aload_n 1, 1), (28, .getfield 13, 3), (31, .iload_n 2, 1), (32, .laload, 1), (33, .lor, 1), (34, .lastore, 1), (35, .iinc 2 1, 3), (38, .goto (-36), 3), (41, .return_, 1)]
theorem k_X1_join : ∀ x ∈ K_X1_join, decode cX1_join x.1 = .ok (x.2.1, x.2.2) := by decide +kernel
def C_X1_join : ck_C := (([(2, 1, [1]), (2, 2, [1])], [], [(0, 0), (1, 0), (1, 0)], []), [([], [], [(1, 0), (1, 0), (1, 0)], [])], [(2, 0)], 0, 0)
def M_X1_join : ck_Me := (4, cw_TT, cw_SG, 3, fl_X1, pl_X1, nw_X1, kl_X1, il_X1, xl_X1, cw_al, [], [(2, 0)], (0, 0), gl_X1)
def I_X1_join : List (Nat × ck_I) := [(2, (([(0, (2, 1, [1])), (1, (2, 2, [1])), (2, (0, 3, []))], [], [], [(0, 0), (1, 0), (1, 0), (0, 5)], [], 0, 0), [(1, 3, 6), (0, 0, 1152921504606846976), (0, 0, 1152921504606846976)]))]
def S_X1_join : ck_S := ([(0, (2, 1, [1])), (1, (2, 2, [1]))], [], [(0, 1000, (8, 0, [])), (0, 1001, (8, 1, [])), (0, 1002, (8, 2, []))], [(0, 0), (1, 0), (1, 0)], [], 0, 0)
theorem h_X1_join : ck_chk M_X1_join (ck_kr (mF M_X1_join) 3 0 C_X1_join) K_X1_join I_X1_join 3 31 S_X1_join = true := by decide +kernel
theorem o_X1_join : ck_ok5 C_X1_join = true := by decide +kernel
theorem a_X1_join : ck_ca cw_V RX1 cX1_join ⟨0, 0, 0, 0⟩ M_X1_join := fun _ _ _ _ _ _ _ _ _ _ _ _ _ _ _ _ _ _ _ _ h => absurd h List.not_mem_nil
theorem t_X1_join (l : Launch) : ck_met cw_V l yX1_join cX1_join 3 none ⟨0, 0, 0, 0⟩ C_X1_join :=
  ck_meth (M := M_X1_join) (rt := 0) (pre := []) false pn_X1_join rfl (fun h => by cases h) ⟨rfl, rfl, rfl, rfl, rfl⟩ ⟨rfl, rfl⟩ rfl (by decide) (by decide) (by decide) k_X1_join (tb_X1 ⟨rfl, rfl, rfl, rfl, rfl, rfl, rfl, rfl, rfl⟩) a_X1_join h_X1_join rfl
theorem hd_X1_turn : yX1_turn.cls ≠ "java/lang/invoke/MethodHandle" ∧ yX1_turn.cls ≠ "java/lang/invoke/VarHandle" ∧ (parseMethodDescriptor yX1_turn.desc).map (fun d => d.parameters.length) = some 0 := ⟨by decide, by decide, by decide +kernel⟩
theorem he_X1_turn : yX1_turn.cls ≠ "java/lang/invoke/MethodHandle" ∧ yX1_turn.cls ≠ "java/lang/invoke/VarHandle" ∧ (parseMethodDescriptor yX1_turn.desc).map (fun d => d.parameters.length + 1) = some 1 := ⟨by decide, by decide, by decide +kernel⟩
theorem pn_X1_turn : plainFor yX1_turn = true := by decide +kernel
def K_X1_turn : ck_cd := [(0, .iconst 0, 1), (1, .istore_n 1, 1), (2, .iload_n 1, 1), (3, .aload_n 0, 1), (4, .getfield 13, 3), (7, .arraylength, 1), (8, .if_icmp .ge 25, 3), (11, .aload_n 0, 1), (12, .getfield 13, 3), (15, .iload_n 1, 1), (16, .aload_n 0, 1), (17, .getfield 13, 3), (20, .iload_n 1, 1), (21, .laload, 1), (22, .ldc2_w 25, 3), (25, .lxor, 1), (26, .lastore, 1), (27, .iinc 1 1, 3), (30, .goto (-28), 3), (33, .return_, 1)]
theorem k_X1_turn : ∀ x ∈ K_X1_turn, decode cX1_turn x.1 = .ok (x.2.1, x.2.2) := by decide +kernel
def C_X1_turn : ck_C := (([(2, 1, [1])], [], [(0, 0), (1, 0)], []), [([], [], [(1, 0), (1, 0)], [])], [(2, 0)], 0, 0)
def M_X1_turn : ck_Me := (4, cw_TT, cw_SG, 2, fl_X1, pl_X1, nw_X1, kl_X1, il_X1, xl_X1, cw_al, [], [(2, 0)], (0, 0), gl_X1)
def I_X1_turn : List (Nat × ck_I) := [(2, (([(0, (2, 1, [1])), (1, (0, 2, []))], [], [], [(0, 0), (1, 0), (0, 5)], [], 0, 0), [(1, 2, 6), (0, 0, 1152921504606846976), (0, 0, 1152921504606846976)]))]
def S_X1_turn : ck_S := ([(0, (2, 1, [1]))], [], [(0, 1000, (8, 0, [])), (0, 1001, (8, 1, []))], [(0, 0), (1, 0)], [], 0, 0)
theorem h_X1_turn : ck_chk M_X1_turn (ck_kr (mF M_X1_turn) 2 0 C_X1_turn) K_X1_turn I_X1_turn 2 25 S_X1_turn = true := by decide +kernel
theorem o_X1_turn : ck_ok5 C_X1_turn = true := by decide +kernel
theorem a_X1_turn : ck_ca cw_V RX1 cX1_turn ⟨0, 0, 0, 0⟩ M_X1_turn := fun _ _ _ _ _ _ _ _ _ _ _ _ _ _ _ _ _ _ _ _ h => absurd h List.not_mem_nil
theorem t_X1_turn (l : Launch) : ck_met cw_V l yX1_turn cX1_turn 2 none ⟨0, 0, 0, 0⟩ C_X1_turn :=
  ck_meth (M := M_X1_turn) (rt := 0) (pre := []) false pn_X1_turn rfl (fun h => by cases h) ⟨rfl, rfl, rfl, rfl, rfl⟩ ⟨rfl, rfl⟩ rfl (by decide) (by decide) (by decide) k_X1_turn (tb_X1 ⟨rfl, rfl, rfl, rfl, rfl, rfl, rfl, rfl, rfl⟩) a_X1_turn h_X1_turn rfl
theorem hd_X1_imply : yX1_imply.cls ≠ "java/lang/invoke/MethodHandle" ∧ yX1_imply.cls ≠ "java/lang/invoke/VarHandle" ∧ (parseMethodDescriptor yX1_imply.desc).map (fun d => d.parameters.length) = some 1 := ⟨by decide, by decide, by decide +kernel⟩
theorem he_X1_imply : yX1_imply.cls ≠ "java/lang/invoke/MethodHandle" ∧ yX1_imply.cls ≠ "java/lang/invoke/VarHandle" ∧ (parseMethodDescriptor yX1_imply.desc).map (fun d => d.parameters.length + 1) = some 2 := ⟨by decide, by decide, by decide +kernel⟩
theorem pn_X1_imply : plainFor yX1_imply = true := by decide +kernel
def K_X1_imply : ck_cd := [(0, .aload_n 0, 1), (1, .invokevirtual 39, 3), (4, .aload_n 0, 1), (5, .aload_n 1, 1), (6, .invokevirtual 42, 3), (9, .return_, 1)]
theorem k_X1_imply : ∀ x ∈ K_X1_imply, decode cX1_imply x.1 = .ok (x.2.1, x.2.2) := by decide +kernel
def C_X1_imply : ck_C := (([(2, 1, [1]), (2, 2, [1])], [], [(0, 0), (1, 0), (1, 0)], []), [([], [], [(1, 0), (1, 0), (1, 0)], [])], [(2, 0)], 0, 0)
def M_X1_imply : ck_Me := (4, cw_TT, cw_SG, 2, fl_X1, pl_X1, nw_X1, kl_X1, il_X1, xl_X1, cw_al, [(3 * 39, 1, 1, C_X1_turn), (3 * 42, 1, 2, C_X1_join)], [(2, 0)], (0, 0), gl_X1)
def I_X1_imply : List (Nat × ck_I) := []
def S_X1_imply : ck_S := ([(0, (2, 1, [1])), (1, (2, 2, [1]))], [], [(0, 1000, (8, 0, [])), (0, 1001, (8, 1, [])), (0, 1002, (8, 2, []))], [(0, 0), (1, 0), (1, 0)], [], 0, 0)
theorem h_X1_imply : ck_chk M_X1_imply (ck_kr (mF M_X1_imply) 3 0 C_X1_imply) K_X1_imply I_X1_imply 3 11 S_X1_imply = true := by decide +kernel
theorem o_X1_imply : ck_ok5 C_X1_imply = true := by decide +kernel
theorem a_X1_imply : ck_ca cw_V RX1 cX1_imply ⟨1, 0, 0, 22⟩ M_X1_imply := fun _ l _ _ _ _ _ _ _ _ _ _ _ _ X hts htl hsw hnq =>
  (List.forall_mem_cons.mpr ⟨ck_cs_V (t_X1_turn l) X hts htl hsw hnq ⟨rfl, rfl⟩ o_X1_turn cw_good (ck_m5 tw_460 tw_461 tw_462 tw_97 tw_463) (by decide) rfl rfl rfl he_X1_turn ⟨rfl, rfl⟩ ⟨by decide, by decide⟩, (List.forall_mem_cons.mpr ⟨ck_cs_V (t_X1_join l) X hts htl hsw hnq ⟨rfl, rfl⟩ o_X1_join cw_good (ck_m5 tw_465 tw_453 tw_454 tw_97 tw_455) (by decide) rfl rfl rfl he_X1_join ⟨rfl, rfl⟩ ⟨by decide, by decide⟩, (fun _ h => absurd h List.not_mem_nil)⟩)⟩)
theorem t_X1_imply (l : Launch) : ck_met cw_V l yX1_imply cX1_imply 2 none ⟨1, 0, 0, 22⟩ C_X1_imply :=
  ck_meth (M := M_X1_imply) (rt := 0) (pre := []) false pn_X1_imply rfl (fun h => by cases h) ⟨rfl, rfl, rfl, rfl, rfl⟩ ⟨rfl, rfl⟩ rfl (by decide) (by decide) (by decide) k_X1_imply (tb_X1 ⟨rfl, rfl, rfl, rfl, rfl, rfl, rfl, rfl, rfl⟩) a_X1_imply h_X1_imply rfl
theorem hd_X7_apply : yX7_apply.cls ≠ "java/lang/invoke/MethodHandle" ∧ yX7_apply.cls ≠ "java/lang/invoke/VarHandle" ∧ (parseMethodDescriptor yX7_apply.desc).map (fun d => d.parameters.length) = some 1 := ⟨by decide, by decide, by decide +kernel⟩
theorem he_X7_apply : yX7_apply.cls ≠ "java/lang/invoke/MethodHandle" ∧ yX7_apply.cls ≠ "java/lang/invoke/VarHandle" ∧ (parseMethodDescriptor yX7_apply.desc).map (fun d => d.parameters.length + 1) = some 2 := ⟨by decide, by decide, by decide +kernel⟩
theorem pn_X7_apply : plainFor yX7_apply = true := by decide +kernel
def K_X7_apply : ck_cd := [(0, .aload_n 0, 1), (1, .getfield 35, 3), (4, .iconst 2, 1), (5, .if_icmp .ge 4, 3), (8, .return_, 1), (9, .aload_n 0, 1), (10, .dup, 1), (11, .getfield 35, 3), (14, .iconst 1, 1), (15, .isub, 1), (16, .putfield 35, 3), (19, .aload_n 0, 1), (20, .getfield 19, 3), (23, .aload_n 0, 1), (24, .getfield 35, 3), (27, .iconst 1, 1), (28, .isub, 1), (29, .aaload, 1), (30, .astore_n 2, 1), (31, .aload_n 0, 1), (32, .getfield 19, 3), (35, .aload_n 0, 1), (36, .getfield 35, 3), (39, .aaload, 1), (40, .astore_n 3, 1), (41, .iload_n 1, 1), (42, .bipush 38, 2), (44, .if_icmp .ne 11, 3), (47, .aload_n 2, 1), (48, .aload_n 3, 1), (49, .invokevirtual 77, 3), (52, .goto 22, 3), (55, .iload_n 1, 1), (56, .bipush 124, 2), (58, .if_icmp .ne 11, 3), (61, .aload_n 2, 1), (62, .aload_n 3, 1), (63, .invokevirtual 81, 3), (66, .goto 8, 3), (69, .aload_n 2, 1), (70, .aload_n 3, 1), (71, .invokevirtual 84, 3), (74, .return_, 1)]
theorem k_X7_apply : ∀ x ∈ K_X7_apply, decode cX7_apply x.1 = .ok (x.2.1, x.2.2) := by decide +kernel
def C_X7_apply : ck_C := (([(2, 1, [12]), (0, 2, [])], [], [(0, 0), (1, 0), ((-2147483648), 2147483647)], []), [([], [], [(1, 0), (1, 0), (1, 0)], [])], [(2, 0), (12, 3)], 0, 0)
def M_X7_apply : ck_Me := (4, cw_TT, cw_SG, 4, fl_X7, pl_X7, nw_X7, kl_X7, il_X7, xl_X7, cw_al, [(3 * 77, 1, 2, C_X1_meet), (3 * 81, 1, 2, C_X1_join), (3 * 84, 1, 2, C_X1_imply)], [(2, 0), (12, 3)], (0, 0), gl_X7)
def I_X7_apply : List (Nat × ck_I) := []
def S_X7_apply : ck_S := ([(0, (2, 1, [12])), (1, (0, 2, []))], [], [(0, 1000, (8, 0, [])), (0, 1001, (8, 1, [])), (0, 1002, (8, 2, []))], [(0, 0), (1, 0), ((-2147483648), 2147483647)], [], 0, 0)
theorem h_X7_apply : ck_chk M_X7_apply (ck_kr (mF M_X7_apply) 3 0 C_X7_apply) K_X7_apply I_X7_apply 3 48 S_X7_apply = true := by decide +kernel
theorem o_X7_apply : ck_ok5 C_X7_apply = true := by decide +kernel
theorem a_X7_apply : ck_ca cw_V RX7 cX7_apply ⟨2, 0, 0, 43⟩ M_X7_apply := fun _ l _ _ _ _ _ _ _ _ _ _ _ _ X hts htl hsw hnq =>
  (List.forall_mem_cons.mpr ⟨ck_cs_V (t_X1_meet l) X hts htl hsw hnq ⟨rfl, rfl⟩ o_X1_meet cw_good (ck_m5 tw_448 tw_449 tw_450 tw_97 tw_451) (by decide) rfl rfl rfl he_X1_meet ⟨rfl, rfl⟩ ⟨by decide, by decide⟩, (List.forall_mem_cons.mpr ⟨ck_cs_V (t_X1_join l) X hts htl hsw hnq ⟨rfl, rfl⟩ o_X1_join cw_good (ck_m5 tw_452 tw_453 tw_454 tw_97 tw_455) (by decide) rfl rfl rfl he_X1_join ⟨rfl, rfl⟩ ⟨by decide, by decide⟩, (List.forall_mem_cons.mpr ⟨ck_cs_V (t_X1_imply l) X hts htl hsw hnq ⟨rfl, rfl⟩ o_X1_imply cw_good (ck_m5 tw_456 tw_457 tw_458 tw_97 tw_459) (by decide) rfl rfl rfl he_X1_imply ⟨rfl, rfl⟩ ⟨by decide, by decide⟩, (fun _ h => absurd h List.not_mem_nil)⟩)⟩)⟩)
theorem t_X7_apply (l : Launch) : ck_met cw_V l yX7_apply cX7_apply 4 none ⟨2, 0, 0, 43⟩ C_X7_apply :=
  ck_meth (M := M_X7_apply) (rt := 0) (pre := []) false pn_X7_apply rfl (fun h => by cases h) ⟨rfl, rfl, rfl, rfl, rfl⟩ ⟨rfl, rfl⟩ rfl (by decide) (by decide) (by decide) k_X7_apply (tb_X7 ⟨rfl, rfl, rfl, rfl, rfl, rfl, rfl, rfl, rfl⟩) a_X7_apply h_X7_apply rfl
theorem hd_X7_bind : yX7_bind.cls ≠ "java/lang/invoke/MethodHandle" ∧ yX7_bind.cls ≠ "java/lang/invoke/VarHandle" ∧ (parseMethodDescriptor yX7_bind.desc).map (fun d => d.parameters.length) = some 1 := ⟨by decide, by decide, by decide +kernel⟩
theorem he_X7_bind : yX7_bind.cls ≠ "java/lang/invoke/MethodHandle" ∧ yX7_bind.cls ≠ "java/lang/invoke/VarHandle" ∧ (parseMethodDescriptor yX7_bind.desc).map (fun d => d.parameters.length + 1) = some 2 := ⟨by decide, by decide, by decide +kernel⟩
theorem pn_X7_bind : plainFor yX7_bind = true := by decide +kernel
def K_X7_bind : ck_cd := [(0, .aload_n 0, 1), (1, .getfield 31, 3), (4, .ifCond .le 55, 3), (7, .aload_n 0, 1), (8, .getfield 9, 3), (11, .aload_n 0, 1), (12, .getfield 31, 3), (15, .iconst 1, 1), (16, .isub, 1), (17, .iaload, 1), (18, .invokestatic 27, 3), (21, .iload_n 1, 1), (22, .if_icmp .lt 37, 3), (25, .aload_n 0, 1), (26, .dup, 1), (27, .getfield 31, 3), (30, .iconst 1, 1), (31, .isub, 1), (32, .putfield 31, 3), (35, .aload_n 0, 1), (36, .getfield 35, 3), (39, .iconst 1, 1), (40, .if_icmp .le (-40), 3), (43, .aload_n 0, 1), (44, .aload_n 0, 1), (45, .getfield 9, 3), (48, .aload_n 0, 1), (49, .getfield 31, 3), (52, .iaload, 1), (53, .invokevirtual 74, 3), (56, .goto (-56), 3), (59, .return_, 1)]
theorem k_X7_bind : ∀ x ∈ K_X7_bind, decode cX7_bind x.1 = .ok (x.2.1, x.2.2) := by decide +kernel
def C_X7_bind : ck_C := (([(2, 1, [12]), (0, 2, [])], [], [(0, 0), (1, 0), (1, 3)], []), [([], [], [(1, 0), (1, 0), (1, 0)], [])], [(2, 0), (12, 2), (12, 3)], 0, 0)
def M_X7_bind : ck_Me := (4, cw_TT, cw_SG, 2, fl_X7, pl_X7, nw_X7, kl_X7, il_X7, xl_X7, cw_al, [(3 * 27 + 1, 0, 1, C_X7_rank), (3 * 74, 12, 2, C_X7_apply)], [(2, 0), (12, 2), (12, 3)], (0, 0), gl_X7)
def I_X7_bind : List (Nat × ck_I) := [(0, (([(0, (2, 1, [12])), (1, (0, 2, []))], [], [(12, 2, (0, 3, []))], [(0, 0), (1, 0), (1, 3), (0, 60)], [], 0, 0), [(2, 3, (-1)), (0, 0, 1152921504606846976), (0, 0, 1152921504606846976)]))]
def S_X7_bind : ck_S := ([(0, (2, 1, [12])), (1, (0, 2, []))], [], [(12, 2, (0, 3, [])), (0, 1000, (8, 0, [])), (0, 1001, (8, 1, [])), (0, 1002, (8, 2, []))], [(0, 0), (1, 0), (1, 3), (0, 60)], [], 0, 0)
theorem h_X7_bind : ck_chk M_X7_bind (ck_kr (mF M_X7_bind) 3 0 C_X7_bind) K_X7_bind I_X7_bind 3 37 S_X7_bind = true := by decide +kernel
theorem o_X7_bind : ck_ok5 C_X7_bind = true := by decide +kernel
theorem a_X7_bind : ck_ca cw_V RX7 cX7_bind ⟨3, 0, 0, 66⟩ M_X7_bind := fun _ l _ _ _ _ _ _ _ _ _ _ _ _ X hts htl hsw hnq =>
  (List.forall_mem_cons.mpr ⟨ck_cs_S (t_X7_rank l) X hts htl hsw hnq ⟨rfl, rfl⟩ o_X7_rank cw_good (ck_m4 tw_432 tw_433 tw_98 tw_434) hd_X7_rank ⟨rfl, rfl⟩ ⟨by decide, by decide⟩, (List.forall_mem_cons.mpr ⟨ck_cs_V (t_X7_apply l) X hts htl hsw hnq ⟨rfl, rfl⟩ o_X7_apply cw_good (ck_m5 tw_444 tw_446 tw_2 tw_98 tw_447) (by decide) rfl rfl rfl he_X7_apply ⟨rfl, rfl⟩ ⟨by decide, by decide⟩, (fun _ h => absurd h List.not_mem_nil)⟩)⟩)
theorem t_X7_bind (l : Launch) : ck_met cw_V l yX7_bind cX7_bind 2 none ⟨3, 0, 0, 66⟩ C_X7_bind :=
  ck_meth (M := M_X7_bind) (rt := 0) (pre := [(12, 2)]) false pn_X7_bind rfl (fun h => by cases h) ⟨rfl, rfl, rfl, rfl, rfl⟩ ⟨rfl, rfl⟩ rfl (by decide) (by decide) (by decide) k_X7_bind (tb_X7 ⟨rfl, rfl, rfl, rfl, rfl, rfl, rfl, rfl, rfl⟩) a_X7_bind h_X7_bind rfl
theorem hd_X7_mark : yX7_mark.cls ≠ "java/lang/invoke/MethodHandle" ∧ yX7_mark.cls ≠ "java/lang/invoke/VarHandle" ∧ (parseMethodDescriptor yX7_mark.desc).map (fun d => d.parameters.length) = some 1 := ⟨by decide, by decide, by decide +kernel⟩
theorem he_X7_mark : yX7_mark.cls ≠ "java/lang/invoke/MethodHandle" ∧ yX7_mark.cls ≠ "java/lang/invoke/VarHandle" ∧ (parseMethodDescriptor yX7_mark.desc).map (fun d => d.parameters.length + 1) = some 2 := ⟨by decide, by decide, by decide +kernel⟩
theorem pn_X7_mark : plainFor yX7_mark = true := by decide +kernel
def K_X7_mark : ck_cd := [(0, .aload_n 0, 1), (1, .getfield 31, 3), (4, .aload_n 0, 1), (5, .getfield 9, 3), (8, .arraylength, 1), (9, .if_icmp .lt 4, 3), (12, .return_, 1), (13, .aload_n 0, 1), (14, .getfield 9, 3), (17, .aload_n 0, 1), (18, .getfield 31, 3), (21, .iload_n 1, 1), (22, .iastore, 1), (23, .aload_n 0, 1), (24, .dup, 1), (25, .getfield 31, 3), (28, .iconst 1, 1), (29, .iadd, 1), (30, .putfield 31, 3), (33, .return_, 1)]
theorem k_X7_mark : ∀ x ∈ K_X7_mark, decode cX7_mark x.1 = .ok (x.2.1, x.2.2) := by decide +kernel
def C_X7_mark : ck_C := (([(2, 1, [12]), (0, 2, [])], [], [(0, 0), (1, 0), (32, 127)], []), [([], [], [(1, 0), (1, 0), (1, 0)], [])], [(12, 2), (25, 0)], 0, 0)
def M_X7_mark : ck_Me := (4, cw_TT, cw_SG, 2, fl_X7, pl_X7, nw_X7, kl_X7, il_X7, xl_X7, cw_al, [], [(12, 2), (25, 0)], (0, 0), gl_X7)
def I_X7_mark : List (Nat × ck_I) := []
def S_X7_mark : ck_S := ([(0, (2, 1, [12])), (1, (0, 2, []))], [], [(0, 1000, (8, 0, [])), (0, 1001, (8, 1, [])), (0, 1002, (8, 2, []))], [(0, 0), (1, 0), (32, 127)], [], 0, 0)
theorem h_X7_mark : ck_chk M_X7_mark (ck_kr (mF M_X7_mark) 3 0 C_X7_mark) K_X7_mark I_X7_mark 3 25 S_X7_mark = true := by decide +kernel
theorem o_X7_mark : ck_ok5 C_X7_mark = true := by decide +kernel
theorem a_X7_mark : ck_ca cw_V RX7 cX7_mark ⟨0, 0, 0, 0⟩ M_X7_mark := fun _ _ _ _ _ _ _ _ _ _ _ _ _ _ _ _ _ _ _ _ h => absurd h List.not_mem_nil
theorem t_X7_mark (l : Launch) : ck_met cw_V l yX7_mark cX7_mark 2 none ⟨0, 0, 0, 0⟩ C_X7_mark :=
  ck_meth (M := M_X7_mark) (rt := 0) (pre := []) false pn_X7_mark rfl (fun h => by cases h) ⟨rfl, rfl, rfl, rfl, rfl⟩ ⟨rfl, rfl⟩ rfl (by decide) (by decide) (by decide) k_X7_mark (tb_X7 ⟨rfl, rfl, rfl, rfl, rfl, rfl, rfl, rfl, rfl⟩) a_X7_mark h_X7_mark rfl
theorem hd_X7_closeBracket : yX7_closeBracket.cls ≠ "java/lang/invoke/MethodHandle" ∧ yX7_closeBracket.cls ≠ "java/lang/invoke/VarHandle" ∧ (parseMethodDescriptor yX7_closeBracket.desc).map (fun d => d.parameters.length) = some 0 := ⟨by decide, by decide, by decide +kernel⟩
theorem he_X7_closeBracket : yX7_closeBracket.cls ≠ "java/lang/invoke/MethodHandle" ∧ yX7_closeBracket.cls ≠ "java/lang/invoke/VarHandle" ∧ (parseMethodDescriptor yX7_closeBracket.desc).map (fun d => d.parameters.length + 1) = some 1 := ⟨by decide, by decide, by decide +kernel⟩
theorem pn_X7_closeBracket : plainFor yX7_closeBracket = true := by decide +kernel
def K_X7_closeBracket : ck_cd := [(0, .aload_n 0, 1), (1, .iconst 1, 1), (2, .invokevirtual 44, 3), (5, .aload_n 0, 1), (6, .getfield 31, 3), (9, .ifCond .le 13, 3), (12, .aload_n 0, 1), (13, .dup, 1), (14, .getfield 31, 3), (17, .iconst 1, 1), (18, .isub, 1), (19, .putfield 31, 3), (22, .return_, 1)]
theorem k_X7_closeBracket : ∀ x ∈ K_X7_closeBracket, decode cX7_closeBracket x.1 = .ok (x.2.1, x.2.2) := by decide +kernel
def C_X7_closeBracket : ck_C := (([(2, 1, [12])], [], [(0, 0), (1, 0)], []), [([], [], [(1, 0), (1, 0)], [])], [(2, 0), (12, 2), (12, 3)], 0, 0)
def M_X7_closeBracket : ck_Me := (4, cw_TT, cw_SG, 1, fl_X7, pl_X7, nw_X7, kl_X7, il_X7, xl_X7, cw_al, [(3 * 44, 12, 2, C_X7_bind)], [(2, 0), (12, 2), (12, 3)], (0, 0), gl_X7)
def I_X7_closeBracket : List (Nat × ck_I) := []
def S_X7_closeBracket : ck_S := ([(0, (2, 1, [12]))], [], [(0, 1000, (8, 0, [])), (0, 1001, (8, 1, []))], [(0, 0), (1, 0)], [], 0, 0)
theorem h_X7_closeBracket : ck_chk M_X7_closeBracket (ck_kr (mF M_X7_closeBracket) 2 0 C_X7_closeBracket) K_X7_closeBracket I_X7_closeBracket 2 18 S_X7_closeBracket = true := by decide +kernel
theorem o_X7_closeBracket : ck_ok5 C_X7_closeBracket = true := by decide +kernel
theorem a_X7_closeBracket : ck_ca cw_V RX7 cX7_closeBracket ⟨4, 0, 0, 87⟩ M_X7_closeBracket := fun _ l _ _ _ _ _ _ _ _ _ _ _ _ X hts htl hsw hnq =>
  (List.forall_mem_cons.mpr ⟨ck_cs_V (t_X7_bind l) X hts htl hsw hnq ⟨rfl, rfl⟩ o_X7_bind cw_good (ck_m5 tw_440 tw_442 tw_1 tw_98 tw_443) (by decide) rfl rfl rfl he_X7_bind ⟨rfl, rfl⟩ ⟨by decide, by decide⟩, (fun _ h => absurd h List.not_mem_nil)⟩)
theorem t_X7_closeBracket (l : Launch) : ck_met cw_V l yX7_closeBracket cX7_closeBracket 1 none ⟨4, 0, 0, 87⟩ C_X7_closeBracket :=
  ck_meth (M := M_X7_closeBracket) (rt := 0) (pre := []) false pn_X7_closeBracket rfl (fun h => by cases h) ⟨rfl, rfl, rfl, rfl, rfl⟩ ⟨rfl, rfl⟩ rfl (by decide) (by decide) (by decide) k_X7_closeBracket (tb_X7 ⟨rfl, rfl, rfl, rfl, rfl, rfl, rfl, rfl, rfl⟩) a_X7_closeBracket h_X7_closeBracket rfl
theorem hd_J7_fill_d0a16 : yJ7_fill_d0a16.cls ≠ "java/lang/invoke/MethodHandle" ∧ yJ7_fill_d0a16.cls ≠ "java/lang/invoke/VarHandle" ∧ (parseMethodDescriptor yJ7_fill_d0a16.desc).map (fun d => d.parameters.length) = some 2 := ⟨by decide, by decide, by decide +kernel⟩
theorem he_J7_fill_d0a16 : yJ7_fill_d0a16.cls ≠ "java/lang/invoke/MethodHandle" ∧ yJ7_fill_d0a16.cls ≠ "java/lang/invoke/VarHandle" ∧ (parseMethodDescriptor yJ7_fill_d0a16.desc).map (fun d => d.parameters.length + 1) = some 3 := ⟨by decide, by decide, by decide +kernel⟩
theorem pn_J7_fill_d0a16 : plainFor yJ7_fill_d0a16 = true := by decide +kernel
def K_J7_fill_d0a16 : ck_cd := [(0, .iconst 0, 1), (1, .istore_n 3, 1), (2, .aload_n 0, 1), (3, .arraylength, 1), (4, .istore 4, 2), (6, .iload_n 3, 1), (7, .iload 4, 2), (9, .if_icmp .ge 13, 3), (12, .aload_n 0, 1), (13, .iload_n 3, 1), (14, .lload_n 1, 1), (15, .lastore, 1), (16, .iinc 3 1, 3), (19, .goto (-13), 3), (22, .return_, 1)]
theorem k_J7_fill_d0a16 : ∀ x ∈ K_J7_fill_d0a16, decode cJ7_fill_d0a16 x.1 = .ok (x.2.1, x.2.2) := by decide +kernel
def C_J7_fill_d0a16 : ck_C := (([(2, 1, [2]), (1, 2, [])], [], [(0, 0), (1, 0), ((-9223372036854775808), 9223372036854775807)], []), [([], [], [(1, 0), (1, 0), (1, 0)], [])], [(2, 0)], 0, 0)
def M_J7_fill_d0a16 : ck_Me := (4, cw_TT, cw_SG, 5, fl_J7, pl_J7, nw_J7, kl_J7, il_J7, xl_J7, cw_al, [], [(2, 0)], (0, 0), gl_J7)
def I_J7_fill_d0a16 : List (Nat × ck_I) := [(6, (([(0, (2, 1, [2])), (1, (1, 2, [])), (3, (0, 3, [])), (4, (0, 4, []))], [], [], [(0, 0), (1, 0), ((-9223372036854775808), 9223372036854775807), (0, 5), (4, 4)], [], 0, 0), [(1, 3, 6), (0, 0, 1152921504606846976), (0, 0, 1152921504606846976)]))]
def S_J7_fill_d0a16 : ck_S := ([(0, (2, 1, [2])), (1, (1, 2, []))], [], [(0, 1000, (8, 0, [])), (0, 1001, (8, 1, [])), (0, 1002, (8, 2, []))], [(0, 0), (1, 0), ((-9223372036854775808), 9223372036854775807)], [], 0, 0)
theorem h_J7_fill_d0a16 : ck_chk M_J7_fill_d0a16 (ck_kr (mF M_J7_fill_d0a16) 3 0 C_J7_fill_d0a16) K_J7_fill_d0a16 I_J7_fill_d0a16 3 20 S_J7_fill_d0a16 = true := by decide +kernel
theorem o_J7_fill_d0a16 : ck_ok5 C_J7_fill_d0a16 = true := by decide +kernel
theorem a_J7_fill_d0a16 : ck_ca cw_V RJ7 cJ7_fill_d0a16 ⟨0, 0, 0, 0⟩ M_J7_fill_d0a16 := fun _ _ _ _ _ _ _ _ _ _ _ _ _ _ _ _ _ _ _ _ h => absurd h List.not_mem_nil
theorem t_J7_fill_d0a16 (l : Launch) : ck_met cw_V l yJ7_fill_d0a16 cJ7_fill_d0a16 5 none ⟨0, 0, 0, 0⟩ C_J7_fill_d0a16 :=
  ck_meth (M := M_J7_fill_d0a16) (rt := 0) (pre := []) false pn_J7_fill_d0a16 rfl (fun h => by cases h) ⟨rfl, rfl, rfl, rfl, rfl⟩ ⟨rfl, rfl⟩ rfl (by decide) (by decide) (by decide) k_J7_fill_d0a16 (tb_J7 ⟨rfl, rfl, rfl, rfl, rfl, rfl, rfl, rfl, rfl⟩) a_J7_fill_d0a16 h_J7_fill_d0a16 rfl
theorem hd_X1_fillUp : yX1_fillUp.cls ≠ "java/lang/invoke/MethodHandle" ∧ yX1_fillUp.cls ≠ "java/lang/invoke/VarHandle" ∧ (parseMethodDescriptor yX1_fillUp.desc).map (fun d => d.parameters.length) = some 0 := ⟨by decide, by decide, by decide +kernel⟩
theorem he_X1_fillUp : yX1_fillUp.cls ≠ "java/lang/invoke/MethodHandle" ∧ yX1_fillUp.cls ≠ "java/lang/invoke/VarHandle" ∧ (parseMethodDescriptor yX1_fillUp.desc).map (fun d => d.parameters.length + 1) = some 1 := ⟨by decide, by decide, by decide +kernel⟩
theorem pn_X1_fillUp : plainFor yX1_fillUp = true := by decide +kernel
def K_X1_fillUp : ck_cd := [(0, .aload_n 0, 1), (1, .getfield 13, 3), (4, .ldc2_w 25, 3), (7, .invokestatic 19, 3), (10, .return_, 1)]
theorem k_X1_fillUp : ∀ x ∈ K_X1_fillUp, decode cX1_fillUp x.1 = .ok (x.2.1, x.2.2) := by decide +kernel
def C_X1_fillUp : ck_C := (([(2, 1, [1])], [], [(0, 0), (1, 0)], []), [([], [], [(1, 0), (1, 0)], [])], [(2, 0)], 0, 0)
def M_X1_fillUp : ck_Me := (4, cw_TT, cw_SG, 1, fl_X1, pl_X1, nw_X1, kl_X1, il_X1, xl_X1, cw_al, [(3 * 19 + 1, 0, 2, C_J7_fill_d0a16)], [(2, 0)], (0, 0), gl_X1)
def I_X1_fillUp : List (Nat × ck_I) := []
def S_X1_fillUp : ck_S := ([(0, (2, 1, [1]))], [], [(0, 1000, (8, 0, [])), (0, 1001, (8, 1, []))], [(0, 0), (1, 0)], [], 0, 0)
theorem h_X1_fillUp : ck_chk M_X1_fillUp (ck_kr (mF M_X1_fillUp) 2 0 C_X1_fillUp) K_X1_fillUp I_X1_fillUp 2 10 S_X1_fillUp = true := by decide +kernel
theorem o_X1_fillUp : ck_ok5 C_X1_fillUp = true := by decide +kernel
theorem a_X1_fillUp : ck_ca cw_V RX1 cX1_fillUp ⟨1, 0, 0, 24⟩ M_X1_fillUp := fun _ l _ _ _ _ _ _ _ _ _ _ _ _ X hts htl hsw hnq =>
  (List.forall_mem_cons.mpr ⟨ck_cs_S (t_J7_fill_d0a16 l) X hts htl hsw hnq ⟨rfl, rfl⟩ o_J7_fill_d0a16 cw_good (ck_m4 tw_482 tw_483 tw_100 tw_484) hd_J7_fill_d0a16 ⟨rfl, rfl⟩ ⟨by decide, by decide⟩, (fun _ h => absurd h List.not_mem_nil)⟩)
theorem t_X1_fillUp (l : Launch) : ck_met cw_V l yX1_fillUp cX1_fillUp 1 none ⟨1, 0, 0, 24⟩ C_X1_fillUp :=
  ck_meth (M := M_X1_fillUp) (rt := 0) (pre := []) false pn_X1_fillUp rfl (fun h => by cases h) ⟨rfl, rfl, rfl, rfl, rfl⟩ ⟨rfl, rfl⟩ rfl (by decide) (by decide) (by decide) k_X1_fillUp (tb_X1 ⟨rfl, rfl, rfl, rfl, rfl, rfl, rfl, rfl, rfl⟩) a_X1_fillUp h_X1_fillUp rfl
theorem hd_X1_clear : yX1_clear.cls ≠ "java/lang/invoke/MethodHandle" ∧ yX1_clear.cls ≠ "java/lang/invoke/VarHandle" ∧ (parseMethodDescriptor yX1_clear.desc).map (fun d => d.parameters.length) = some 0 := ⟨by decide, by decide, by decide +kernel⟩
theorem he_X1_clear : yX1_clear.cls ≠ "java/lang/invoke/MethodHandle" ∧ yX1_clear.cls ≠ "java/lang/invoke/VarHandle" ∧ (parseMethodDescriptor yX1_clear.desc).map (fun d => d.parameters.length + 1) = some 1 := ⟨by decide, by decide, by decide +kernel⟩
theorem pn_X1_clear : plainFor yX1_clear = true := by decide +kernel
def K_X1_clear : ck_cd := [(0, .aload_n 0, 1), (1, .getfield 13, 3), (4, .lconst 0, 1), (5, .invokestatic 19, 3), (8, .return_, 1)]
theorem k_X1_clear : ∀ x ∈ K_X1_clear, decode cX1_clear x.1 = .ok (x.2.1, x.2.2) := by decide +kernel
def C_X1_clear : ck_C := (([(2, 1, [1])], [], [(0, 0), (1, 0)], []), [([], [], [(1, 0), (1, 0)], [])], [(2, 0)], 0, 0)
def M_X1_clear : ck_Me := (4, cw_TT, cw_SG, 1, fl_X1, pl_X1, nw_X1, kl_X1, il_X1, xl_X1, cw_al, [(3 * 19 + 1, 0, 2, C_J7_fill_d0a16)], [(2, 0)], (0, 0), gl_X1)
def I_X1_clear : List (Nat × ck_I) := []
def S_X1_clear : ck_S := ([(0, (2, 1, [1]))], [], [(0, 1000, (8, 0, [])), (0, 1001, (8, 1, []))], [(0, 0), (1, 0)], [], 0, 0)
theorem h_X1_clear : ck_chk M_X1_clear (ck_kr (mF M_X1_clear) 2 0 C_X1_clear) K_X1_clear I_X1_clear 2 10 S_X1_clear = true := by decide +kernel
theorem o_X1_clear : ck_ok5 C_X1_clear = true := by decide +kernel
theorem a_X1_clear : ck_ca cw_V RX1 cX1_clear ⟨1, 0, 0, 24⟩ M_X1_clear := fun _ l _ _ _ _ _ _ _ _ _ _ _ _ X hts htl hsw hnq =>
  (List.forall_mem_cons.mpr ⟨ck_cs_S (t_J7_fill_d0a16 l) X hts htl hsw hnq ⟨rfl, rfl⟩ o_J7_fill_d0a16 cw_good (ck_m4 tw_482 tw_483 tw_100 tw_484) hd_J7_fill_d0a16 ⟨rfl, rfl⟩ ⟨by decide, by decide⟩, (fun _ h => absurd h List.not_mem_nil)⟩)
theorem t_X1_clear (l : Launch) : ck_met cw_V l yX1_clear cX1_clear 1 none ⟨1, 0, 0, 24⟩ C_X1_clear :=
  ck_meth (M := M_X1_clear) (rt := 0) (pre := []) false pn_X1_clear rfl (fun h => by cases h) ⟨rfl, rfl, rfl, rfl, rfl⟩ ⟨rfl, rfl⟩ rfl (by decide) (by decide) (by decide) k_X1_clear (tb_X1 ⟨rfl, rfl, rfl, rfl, rfl, rfl, rfl, rfl, rfl⟩) a_X1_clear h_X1_clear rfl
theorem hd_X1_fillWith : yX1_fillWith.cls ≠ "java/lang/invoke/MethodHandle" ∧ yX1_fillWith.cls ≠ "java/lang/invoke/VarHandle" ∧ (parseMethodDescriptor yX1_fillWith.desc).map (fun d => d.parameters.length) = some 1 := ⟨by decide, by decide, by decide +kernel⟩
theorem he_X1_fillWith : yX1_fillWith.cls ≠ "java/lang/invoke/MethodHandle" ∧ yX1_fillWith.cls ≠ "java/lang/invoke/VarHandle" ∧ (parseMethodDescriptor yX1_fillWith.desc).map (fun d => d.parameters.length + 1) = some 2 := ⟨by decide, by decide, by decide +kernel⟩
theorem pn_X1_fillWith : plainFor yX1_fillWith = true := by decide +kernel
def K_X1_fillWith : ck_cd := [(0, .iconst 0, 1), (1, .istore_n 2, 1), (2, .iload_n 2, 1), (3, .aload_n 0, 1), (4, .getfield 13, 3), (7, .arraylength, 1), (8, .if_icmp .ge 60, 3), (11, .iload_n 1, 1), (12, .ifCond .lt 25, 3), (15, .iload_n 1, 1), (16, .getstatic 27, 3), (19, .arraylength, 1), (20, .if_icmp .ge 17, 3), (23, .aload_n 0, 1), (24, .getfield 13, 3), (27, .iload_n 2, 1), (28, .getstatic 27, 3), (31, .iload_n 1, 1), (32, .laload, 1), (33, .lastore, 1), (34, .goto 28, 3), (37, .aload_n 0, 1), (38, .getfield 13, 3), (41, .iload_n 2, 1), (42, .iload_n 2, 1), (43, .iload_n 1, 1), (44, .bipush 6, 2), (46, .isub, 1), (47, .ishr, 1), (48, .iconst 1, 1), (49, .iand, 1), (50, .iconst 1, 1), (51, .if_icmp .ne 9, 3), (54, .ldc2_w 25, 3), (57, .goto 4, 3), (60, .lconst 0, 1), (61, .lastore, 1), (62, .iinc 2 1, 3), (65, .goto (-63), 3), (68, .return_, 1)]
theorem k_X1_fillWith : ∀ x ∈ K_X1_fillWith, decode cX1_fillWith x.1 = .ok (x.2.1, x.2.2) := by decide +kernel
def C_X1_fillWith : ck_C := (([(2, 1, [1]), (0, 2, [])], [], [(0, 0), (1, 0), ((-2147483648), 2147483647)], []), [([], [], [(1, 0), (1, 0), (1, 0)], [])], [(2, 0)], 0, 0)
def M_X1_fillWith : ck_Me := (4, cw_TT, cw_SG, 3, fl_X1, pl_X1, nw_X1, kl_X1, il_X1, xl_X1, cw_al, [], [(2, 0)], (0, 0), gl_X1)
def I_X1_fillWith : List (Nat × ck_I) := [(2, (([(0, (2, 1, [1])), (1, (0, 2, [])), (2, (0, 3, []))], [], [], [(0, 0), (1, 0), ((-2147483648), 2147483647), (0, 5)], [], 0, 0), [(1, 3, 6), (0, 0, 1152921504606846976), (0, 0, 1152921504606846976)]))]
def S_X1_fillWith : ck_S := ([(0, (2, 1, [1])), (1, (0, 2, []))], [], [(0, 1000, (8, 0, [])), (0, 1001, (8, 1, [])), (0, 1002, (8, 2, []))], [(0, 0), (1, 0), ((-2147483648), 2147483647)], [], 0, 0)
theorem h_X1_fillWith : ck_chk M_X1_fillWith (ck_kr (mF M_X1_fillWith) 3 0 C_X1_fillWith) K_X1_fillWith I_X1_fillWith 3 45 S_X1_fillWith = true := by decide +kernel
theorem o_X1_fillWith : ck_ok5 C_X1_fillWith = true := by decide +kernel
theorem a_X1_fillWith : ck_ca cw_V RX1 cX1_fillWith ⟨0, 0, 0, 0⟩ M_X1_fillWith := fun _ _ _ _ _ _ _ _ _ _ _ _ _ _ _ _ _ _ _ _ h => absurd h List.not_mem_nil
theorem t_X1_fillWith (l : Launch) : ck_met cw_V l yX1_fillWith cX1_fillWith 3 none ⟨0, 0, 0, 0⟩ C_X1_fillWith :=
  ck_meth (M := M_X1_fillWith) (rt := 0) (pre := []) false pn_X1_fillWith rfl (fun h => by cases h) ⟨rfl, rfl, rfl, rfl, rfl⟩ ⟨rfl, rfl⟩ rfl (by decide) (by decide) (by decide) k_X1_fillWith (tb_X1 ⟨rfl, rfl, rfl, rfl, rfl, rfl, rfl, rfl, rfl⟩) a_X1_fillWith h_X1_fillWith rfl
theorem hd_X7_operand : yX7_operand.cls ≠ "java/lang/invoke/MethodHandle" ∧ yX7_operand.cls ≠ "java/lang/invoke/VarHandle" ∧ (parseMethodDescriptor yX7_operand.desc).map (fun d => d.parameters.length) = some 1 := ⟨by decide, by decide, by decide +kernel⟩
theorem he_X7_operand : yX7_operand.cls ≠ "java/lang/invoke/MethodHandle" ∧ yX7_operand.cls ≠ "java/lang/invoke/VarHandle" ∧ (parseMethodDescriptor yX7_operand.desc).map (fun d => d.parameters.length + 1) = some 2 := ⟨by decide, by decide, by decide +kernel⟩
theorem pn_X7_operand : plainFor yX7_operand = true := by decide +kernel
def K_X7_operand : ck_cd := [(0, .aload_n 0, 1), (1, .getfield 35, 3), (4, .aload_n 0, 1), (5, .getfield 19, 3), (8, .arraylength, 1), (9, .if_icmp .lt 4, 3), (12, .return_, 1), (13, .aload_n 0, 1), (14, .getfield 19, 3), (17, .aload_n 0, 1), (18, .getfield 35, 3), (21, .aaload, 1), (22, .astore_n 2, 1), (23, .aload_n 0, 1), (24, .dup, 1), (25, .getfield 35, 3), (28, .iconst 1, 1), (29, .iadd, 1), (30, .putfield 35, 3), (33, .iload_n 1, 1), (34, .bipush 49, 2), (36, .if_icmp .ne 10, 3), (39, .aload_n 2, 1), (40, .invokevirtual 60, 3), (43, .goto 24, 3), (46, .iload_n 1, 1), (47, .bipush 48, 2), (49, .if_icmp .ne 10, 3), (52, .aload_n 2, 1), (53, .invokevirtual 65, 3), (56, .goto 11, 3), (59, .aload_n 2, 1), (60, .iload_n 1, 1), (61, .bipush 97, 2), (63, .isub, 1), (64, .invokevirtual 68, 3), (67, .return_, 1)]
theorem k_X7_operand : ∀ x ∈ K_X7_operand, decode cX7_operand x.1 = .ok (x.2.1, x.2.2) := by decide +kernel
def C_X7_operand : ck_C := (([(2, 1, [12]), (0, 2, [])], [], [(0, 0), (1, 0), ((-2147483648), 2147483647)], []), [([], [], [(1, 0), (1, 0), (1, 0)], [])], [(2, 0), (12, 3)], 0, 0)
def M_X7_operand : ck_Me := (4, cw_TT, cw_SG, 3, fl_X7, pl_X7, nw_X7, kl_X7, il_X7, xl_X7, cw_al, [(3 * 60, 1, 1, C_X1_fillUp), (3 * 65, 1, 1, C_X1_clear), (3 * 68, 1, 2, C_X1_fillWith)], [(2, 0), (12, 3)], (0, 0), gl_X7)
def I_X7_operand : List (Nat × ck_I) := []
def S_X7_operand : ck_S := ([(0, (2, 1, [12])), (1, (0, 2, []))], [], [(0, 1000, (8, 0, [])), (0, 1001, (8, 1, [])), (0, 1002, (8, 2, []))], [(0, 0), (1, 0), ((-2147483648), 2147483647)], [], 0, 0)
theorem h_X7_operand : ck_chk M_X7_operand (ck_kr (mF M_X7_operand) 3 0 C_X7_operand) K_X7_operand I_X7_operand 3 42 S_X7_operand = true := by decide +kernel
theorem o_X7_operand : ck_ok5 C_X7_operand = true := by decide +kernel
theorem a_X7_operand : ck_ca cw_V RX7 cX7_operand ⟨2, 0, 0, 44⟩ M_X7_operand := fun _ l _ _ _ _ _ _ _ _ _ _ _ _ X hts htl hsw hnq =>
  (List.forall_mem_cons.mpr ⟨ck_cs_V (t_X1_fillUp l) X hts htl hsw hnq ⟨rfl, rfl⟩ o_X1_fillUp cw_good (ck_m5 tw_478 tw_479 tw_480 tw_97 tw_481) (by decide) rfl rfl rfl he_X1_fillUp ⟨rfl, rfl⟩ ⟨by decide, by decide⟩, (List.forall_mem_cons.mpr ⟨ck_cs_V (t_X1_clear l) X hts htl hsw hnq ⟨rfl, rfl⟩ o_X1_clear cw_good (ck_m5 tw_485 tw_486 tw_487 tw_97 tw_488) (by decide) rfl rfl rfl he_X1_clear ⟨rfl, rfl⟩ ⟨by decide, by decide⟩, (List.forall_mem_cons.mpr ⟨ck_cs_V (t_X1_fillWith l) X hts htl hsw hnq ⟨rfl, rfl⟩ o_X1_fillWith cw_good (ck_m5 tw_489 tw_490 tw_491 tw_97 tw_492) (by decide) rfl rfl rfl he_X1_fillWith ⟨rfl, rfl⟩ ⟨by decide, by decide⟩, (fun _ h => absurd h List.not_mem_nil)⟩)⟩)⟩)
theorem t_X7_operand (l : Launch) : ck_met cw_V l yX7_operand cX7_operand 3 none ⟨2, 0, 0, 44⟩ C_X7_operand :=
  ck_meth (M := M_X7_operand) (rt := 0) (pre := []) false pn_X7_operand rfl (fun h => by cases h) ⟨rfl, rfl, rfl, rfl, rfl⟩ ⟨rfl, rfl⟩ rfl (by decide) (by decide) (by decide) k_X7_operand (tb_X7 ⟨rfl, rfl, rfl, rfl, rfl, rfl, rfl, rfl, rfl⟩) a_X7_operand h_X7_operand rfl
theorem hd_X7_turnAsMarked : yX7_turnAsMarked.cls ≠ "java/lang/invoke/MethodHandle" ∧ yX7_turnAsMarked.cls ≠ "java/lang/invoke/VarHandle" ∧ (parseMethodDescriptor yX7_turnAsMarked.desc).map (fun d => d.parameters.length) = some 0 := ⟨by decide, by decide, by decide +kernel⟩
theorem he_X7_turnAsMarked : yX7_turnAsMarked.cls ≠ "java/lang/invoke/MethodHandle" ∧ yX7_turnAsMarked.cls ≠ "java/lang/invoke/VarHandle" ∧ (parseMethodDescriptor yX7_turnAsMarked.desc).map (fun d => d.parameters.length + 1) = some 1 := ⟨by decide, by decide, by decide +kernel⟩
theorem pn_X7_turnAsMarked : plainFor yX7_turnAsMarked = true := by decide +kernel
def K_X7_turnAsMarked : ck_cd := [(0, .aload_n 0, 1), (1, .getfield 31, 3), (4, .ifCond .le 53, 3), (7, .aload_n 0, 1), (8, .getfield 9, 3), (11, .aload_n 0, 1), (12, .getfield 31, 3), (15, .iconst 1, 1), (16, .isub, 1), (17, .iaload, 1), (18, .bipush 45, 2), (20, .if_icmp .ne 37, 3), (23, .aload_n 0, 1), (24, .dup, 1), (25, .getfield 31, 3), (28, .iconst 1, 1), (29, .isub, 1), (30, .putfield 31, 3), (33, .aload_n 0, 1), (34, .getfield 35, 3), (37, .ifCond .le (-37), 3), (40, .aload_n 0, 1), (41, .getfield 19, 3), (44, .aload_n 0, 1), (45, .getfield 35, 3), (48, .iconst 1, 1), (49, .isub, 1), (50, .aaload, 1), (51, .invokevirtual 71, 3), (54, .goto (-54), 3), (57, .return_, 1)]
theorem k_X7_turnAsMarked : ∀ x ∈ K_X7_turnAsMarked, decode cX7_turnAsMarked x.1 = .ok (x.2.1, x.2.2) := by decide +kernel
def C_X7_turnAsMarked : ck_C := (([(2, 1, [12])], [], [(0, 0), (1, 0)], []), [([], [], [(1, 0), (1, 0)], [])], [(2, 0), (12, 2)], 0, 0)
def M_X7_turnAsMarked : ck_Me := (4, cw_TT, cw_SG, 1, fl_X7, pl_X7, nw_X7, kl_X7, il_X7, xl_X7, cw_al, [(3 * 71, 1, 1, C_X1_turn)], [(2, 0), (12, 2)], (0, 0), gl_X7)
def I_X7_turnAsMarked : List (Nat × ck_I) := [(0, (([(0, (2, 1, [12]))], [], [(12, 2, (0, 2, []))], [(0, 0), (1, 0), (0, 60)], [], 0, 0), [(2, 2, (-1)), (0, 0, 1152921504606846976), (0, 0, 1152921504606846976)]))]
def S_X7_turnAsMarked : ck_S := ([(0, (2, 1, [12]))], [], [(12, 2, (0, 2, [])), (0, 1000, (8, 0, [])), (0, 1001, (8, 1, []))], [(0, 0), (1, 0), (0, 60)], [], 0, 0)
theorem h_X7_turnAsMarked : ck_chk M_X7_turnAsMarked (ck_kr (mF M_X7_turnAsMarked) 2 0 C_X7_turnAsMarked) K_X7_turnAsMarked I_X7_turnAsMarked 2 36 S_X7_turnAsMarked = true := by decide +kernel
theorem o_X7_turnAsMarked : ck_ok5 C_X7_turnAsMarked = true := by decide +kernel
theorem a_X7_turnAsMarked : ck_ca cw_V RX7 cX7_turnAsMarked ⟨1, 0, 0, 21⟩ M_X7_turnAsMarked := fun _ l _ _ _ _ _ _ _ _ _ _ _ _ X hts htl hsw hnq =>
  (List.forall_mem_cons.mpr ⟨ck_cs_V (t_X1_turn l) X hts htl hsw hnq ⟨rfl, rfl⟩ o_X1_turn cw_good (ck_m5 tw_499 tw_461 tw_462 tw_97 tw_463) (by decide) rfl rfl rfl he_X1_turn ⟨rfl, rfl⟩ ⟨by decide, by decide⟩, (fun _ h => absurd h List.not_mem_nil)⟩)
theorem t_X7_turnAsMarked (l : Launch) : ck_met cw_V l yX7_turnAsMarked cX7_turnAsMarked 1 none ⟨1, 0, 0, 21⟩ C_X7_turnAsMarked :=
  ck_meth (M := M_X7_turnAsMarked) (rt := 0) (pre := [(12, 2)]) false pn_X7_turnAsMarked rfl (fun h => by cases h) ⟨rfl, rfl, rfl, rfl, rfl⟩ ⟨rfl, rfl⟩ rfl (by decide) (by decide) (by decide) k_X7_turnAsMarked (tb_X7 ⟨rfl, rfl, rfl, rfl, rfl, rfl, rfl, rfl, rfl⟩) a_X7_turnAsMarked h_X7_turnAsMarked rfl
theorem hd_X7_valueOf : yX7_valueOf.cls ≠ "java/lang/invoke/MethodHandle" ∧ yX7_valueOf.cls ≠ "java/lang/invoke/VarHandle" ∧ (parseMethodDescriptor yX7_valueOf.desc).map (fun d => d.parameters.length) = some 3 := ⟨by decide, by decide, by decide +kernel⟩
theorem he_X7_valueOf : yX7_valueOf.cls ≠ "java/lang/invoke/MethodHandle" ∧ yX7_valueOf.cls ≠ "java/lang/invoke/VarHandle" ∧ (parseMethodDescriptor yX7_valueOf.desc).map (fun d => d.parameters.length + 1) = some 4 := ⟨by decide, by decide, by decide +kernel⟩
theorem pn_X7_valueOf : plainFor yX7_valueOf = true := by decide +kernel
def K_X7_valueOf : ck_cd := [(0, .aload_n 0, 1), (1, .iconst 0, 1), (2, .putfield 31, 3), (5, .aload_n 0, 1), (6, .iconst 0, 1), (7, .putfield 35, 3), (10, .iload_n 2, 1), (11, .iconst 0, 1), (12, .invokestatic 38, 3), (15, .istore 4, 2), (17, .iload 4, 2), (19, .iload_n 2, 1), (20, .iload_n 3, 1), (21, .iadd, 1), (22, .if_icmp .ge 100, 3), (25, .iload 4, 2), (27, .aload_n 1, 1), (28, .arraylength, 1), (29, .if_icmp .ge 93, 3), (32, .aload_n 1, 1), (33, .iload 4, 2), (35, .iaload, 1), (36, .istore 5, 2), (38, .iload 5, 2), (40, .invokestatic 27, 3), (43, .istore 6, 2), (45, .iload 6, 2), (47, .ifCond .le 22, 3), (50, .aload_n 0, 1), (51, .iload 6, 2), (53, .iconst 2, 1), (54, .invokestatic 38, 3), (57, .invokevirtual 44, 3), (60, .aload_n 0, 1), (61, .iload 5, 2), (63, .invokevirtual 48, 3), (66, .goto 50, 3), (69, .iload 5, 2), (71, .bipush 40, 2), (73, .if_icmp .eq 10, 3), (76, .iload 5, 2), (78, .bipush 45, 2), (80, .if_icmp .ne 12, 3), (83, .aload_n 0, 1), (84, .iload 5, 2), (86, .invokevirtual 48, 3), (89, .goto 27, 3), (92, .iload 5, 2), (94, .bipush 41, 2), (96, .if_icmp .ne 10, 3), (99, .aload_n 0, 1), (100, .invokevirtual 51, 3), (103, .goto 9, 3), (106, .aload_n 0, 1), (107, .iload 5, 2), (109, .invokevirtual 54, 3), (112, .aload_n 0, 1), (113, .invokevirtual 57, 3), (116, .iinc 4 1, 3), (119, .goto (-102), 3), (122, .aload_n 0, 1), (123, .iconst 1, 1), (124, .invokevirtual 44, 3), (127, .aload_n 0, 1), (128, .getfield 19, 3), (131, .iconst 0, 1), (132, .aaload, 1), (133, .areturn, 1)]
theorem k_X7_valueOf : ∀ x ∈ K_X7_valueOf, decode cX7_valueOf x.1 = .ok (x.2.1, x.2.2) := by decide +kernel
def C_X7_valueOf : ck_C := (([(2, 1, [12]), (2, 2, [20]), (0, 3, []), (0, 4, [])], [], [(0, 0), (1, 0), (1, 0), (0, 60), (0, 2147483647)], []), [([(2, 5, [1])], [], [(1, 0), (1, 0), (1, 0), (1, 0), (1, 0), (1, 0)], [])], [(2, 0), (12, 2), (12, 3), (25, 0)], 0, 0)
def M_X7_valueOf : ck_Me := (4, cw_TT, cw_SG, 7, fl_X7, pl_X7, nw_X7, kl_X7, il_X7, xl_X7, cw_al, [(3 * 27 + 1, 0, 1, C_X7_rank), (3 * 38 + 1, 0, 2, C_J9_max_7cf53), (3 * 44, 12, 2, C_X7_bind), (3 * 48, 12, 2, C_X7_mark), (3 * 51, 12, 1, C_X7_closeBracket), (3 * 54, 12, 2, C_X7_operand), (3 * 57, 12, 1, C_X7_turnAsMarked)], [(2, 0), (12, 2), (12, 3), (25, 0)], (0, 0), gl_X7)
def I_X7_valueOf : List (Nat × ck_I) := [(17, (([(0, (2, 1, [12])), (1, (2, 2, [20])), (2, (0, 3, [])), (3, (0, 4, [])), (4, (0, 5, []))], [], [], [(0, 0), (1, 0), (1, 0), (0, 60), (0, 2147483647), (0, 60)], [(3, 5, 0)], 0, 0), [(1, 5, 61), (0, 0, 1152921504606846976), (0, 0, 1152921504606846976)]))]
def S_X7_valueOf : ck_S := ([(0, (2, 1, [12])), (1, (2, 2, [20])), (2, (0, 3, [])), (3, (0, 4, []))], [], [(0, 1000, (8, 0, [])), (0, 1001, (8, 1, [])), (0, 1002, (8, 2, [])), (0, 1003, (8, 3, [])), (0, 1004, (8, 4, []))], [(0, 0), (1, 0), (1, 0), (0, 60), (0, 2147483647)], [], 0, 0)
theorem h_X7_valueOf : ck_chk M_X7_valueOf (ck_kr (mF M_X7_valueOf) 5 4 C_X7_valueOf) K_X7_valueOf I_X7_valueOf 5 73 S_X7_valueOf = true := by decide +kernel
theorem o_X7_valueOf : ck_ok5 C_X7_valueOf = true := by decide +kernel
theorem a_X7_valueOf : ck_ca cw_V RX7 cX7_valueOf ⟨5, 0, 0, 107⟩ M_X7_valueOf := fun _ l _ _ _ _ _ _ _ _ _ _ _ _ X hts htl hsw hnq =>
  (List.forall_mem_cons.mpr ⟨ck_cs_S (t_X7_rank l) X hts htl hsw hnq ⟨rfl, rfl⟩ o_X7_rank cw_good (ck_m4 tw_432 tw_433 tw_98 tw_434) hd_X7_rank ⟨rfl, rfl⟩ ⟨by decide, by decide⟩, (List.forall_mem_cons.mpr ⟨ck_cs_S (t_J9_max_7cf53 l) X hts htl hsw hnq ⟨rfl, rfl⟩ o_J9_max_7cf53 cw_good (ck_m4 tw_439 tw_125 tw_96 tw_126) hd_J9_max_7cf53 ⟨rfl, rfl⟩ ⟨by decide, by decide⟩, (List.forall_mem_cons.mpr ⟨ck_cs_V (t_X7_bind l) X hts htl hsw hnq ⟨rfl, rfl⟩ o_X7_bind cw_good (ck_m5 tw_440 tw_442 tw_1 tw_98 tw_443) (by decide) rfl rfl rfl he_X7_bind ⟨rfl, rfl⟩ ⟨by decide, by decide⟩, (List.forall_mem_cons.mpr ⟨ck_cs_V (t_X7_mark l) X hts htl hsw hnq ⟨rfl, rfl⟩ o_X7_mark cw_good (ck_m5 tw_466 tw_468 tw_3 tw_98 tw_469) (by decide) rfl rfl rfl he_X7_mark ⟨rfl, rfl⟩ ⟨by decide, by decide⟩, (List.forall_mem_cons.mpr ⟨ck_cs_V (t_X7_closeBracket l) X hts htl hsw hnq ⟨rfl, rfl⟩ o_X7_closeBracket cw_good (ck_m5 tw_470 tw_472 tw_4 tw_98 tw_473) (by decide) rfl rfl rfl he_X7_closeBracket ⟨rfl, rfl⟩ ⟨by decide, by decide⟩, (List.forall_mem_cons.mpr ⟨ck_cs_V (t_X7_operand l) X hts htl hsw hnq ⟨rfl, rfl⟩ o_X7_operand cw_good (ck_m5 tw_474 tw_476 tw_5 tw_98 tw_477) (by decide) rfl rfl rfl he_X7_operand ⟨rfl, rfl⟩ ⟨by decide, by decide⟩, (List.forall_mem_cons.mpr ⟨ck_cs_V (t_X7_turnAsMarked l) X hts htl hsw hnq ⟨rfl, rfl⟩ o_X7_turnAsMarked cw_good (ck_m5 tw_495 tw_497 tw_6 tw_98 tw_498) (by decide) rfl rfl rfl he_X7_turnAsMarked ⟨rfl, rfl⟩ ⟨by decide, by decide⟩, (fun _ h => absurd h List.not_mem_nil)⟩)⟩)⟩)⟩)⟩)⟩)⟩)
theorem t_X7_valueOf (l : Launch) : ck_met cw_V l yX7_valueOf cX7_valueOf 7 (some (.object "ReasonDesk$Bits")) ⟨5, 0, 0, 107⟩ C_X7_valueOf :=
  ck_meth (M := M_X7_valueOf) (rt := 4) (pre := []) false pn_X7_valueOf rfl (fun h => by cases h) ⟨rfl, rfl, rfl, rfl, rfl⟩ ⟨rfl, rfl⟩ ⟨_, rfl, Or.inl ⟨_, rfl⟩⟩ (by decide) (by decide) (by decide) k_X7_valueOf (tb_X7 ⟨rfl, rfl, rfl, rfl, rfl, rfl, rfl, rfl, rfl⟩) a_X7_valueOf h_X7_valueOf rfl
theorem hd_J9_min_7cf53 : yJ9_min_7cf53.cls ≠ "java/lang/invoke/MethodHandle" ∧ yJ9_min_7cf53.cls ≠ "java/lang/invoke/VarHandle" ∧ (parseMethodDescriptor yJ9_min_7cf53.desc).map (fun d => d.parameters.length) = some 2 := ⟨by decide, by decide, by decide +kernel⟩
theorem he_J9_min_7cf53 : yJ9_min_7cf53.cls ≠ "java/lang/invoke/MethodHandle" ∧ yJ9_min_7cf53.cls ≠ "java/lang/invoke/VarHandle" ∧ (parseMethodDescriptor yJ9_min_7cf53.desc).map (fun d => d.parameters.length + 1) = some 3 := ⟨by decide, by decide, by decide +kernel⟩
theorem pn_J9_min_7cf53 : plainFor yJ9_min_7cf53 = true := by decide +kernel
def K_J9_min_7cf53 : ck_cd := [(0, .iload_n 0, 1), (1, .iload_n 1, 1), (2, .if_icmp .gt 7, 3), (5, .iload_n 0, 1), (6, .goto 4, 3), (9, .iload_n 1, 1), (10, .ireturn, 1)]
theorem k_J9_min_7cf53 : ∀ x ∈ K_J9_min_7cf53, decode cJ9_min_7cf53 x.1 = .ok (x.2.1, x.2.2) := by decide +kernel
def C_J9_min_7cf53 : ck_C := (([(0, 1, []), (0, 2, [])], [], [(0, 0), ((-2147483648), 2147483647), ((-2147483648), 2147483647)], []), [([(0, 3, [])], [], [(1, 0), (1, 0), (1, 0), ((-2147483648), 2147483647)], [(3, 1, 0), (3, 2, 0), (1, 3, 0), (1, 2, 0)]), ([(0, 3, [])], [], [(1, 0), (1, 0), (1, 0), ((-2147483648), 2147483646)], [(0, 1, 2147483647), (2, 0, 2147483646), (3, 1, (-1)), (3, 2, 0), (2, 3, 0), (2, 1, (-1))])], [], 0, 0)
def M_J9_min_7cf53 : ck_Me := (4, cw_TT, cw_SG, 2, fl_J9, pl_J9, nw_J9, kl_J9, il_J9, xl_J9, cw_al, [], [], (0, 0), gl_J9)
def I_J9_min_7cf53 : List (Nat × ck_I) := []
def S_J9_min_7cf53 : ck_S := ([(0, (0, 1, [])), (1, (0, 2, []))], [], [(0, 1000, (8, 0, [])), (0, 1001, (8, 1, [])), (0, 1002, (8, 2, []))], [(0, 0), ((-2147483648), 2147483647), ((-2147483648), 2147483647)], [], 0, 0)
theorem h_J9_min_7cf53 : ck_chk M_J9_min_7cf53 (ck_kr (mF M_J9_min_7cf53) 3 1 C_J9_min_7cf53) K_J9_min_7cf53 I_J9_min_7cf53 3 12 S_J9_min_7cf53 = true := by decide +kernel
theorem o_J9_min_7cf53 : ck_ok5 C_J9_min_7cf53 = true := by decide +kernel
theorem a_J9_min_7cf53 : ck_ca cw_V RJ9 cJ9_min_7cf53 ⟨0, 0, 0, 0⟩ M_J9_min_7cf53 := fun _ _ _ _ _ _ _ _ _ _ _ _ _ _ _ _ _ _ _ _ h => absurd h List.not_mem_nil
theorem t_J9_min_7cf53 (l : Launch) : ck_met cw_V l yJ9_min_7cf53 cJ9_min_7cf53 2 (some .int) ⟨0, 0, 0, 0⟩ C_J9_min_7cf53 :=
  ck_meth (M := M_J9_min_7cf53) (rt := 1) (pre := []) false pn_J9_min_7cf53 rfl (fun h => by cases h) ⟨rfl, rfl, rfl, rfl, rfl⟩ ⟨rfl, rfl⟩ rfl (by decide) (by decide) (by decide) k_J9_min_7cf53 (tb_J9 ⟨rfl, rfl, rfl, rfl, rfl, rfl, rfl, rfl, rfl⟩) a_J9_min_7cf53 h_J9_min_7cf53 rfl
theorem hd_X11_newSentence : yX11_newSentence.cls ≠ "java/lang/invoke/MethodHandle" ∧ yX11_newSentence.cls ≠ "java/lang/invoke/VarHandle" ∧ (parseMethodDescriptor yX11_newSentence.desc).map (fun d => d.parameters.length) = some 0 := ⟨by decide, by decide, by decide +kernel⟩
theorem he_X11_newSentence : yX11_newSentence.cls ≠ "java/lang/invoke/MethodHandle" ∧ yX11_newSentence.cls ≠ "java/lang/invoke/VarHandle" ∧ (parseMethodDescriptor yX11_newSentence.desc).map (fun d => d.parameters.length + 1) = some 1 := ⟨by decide, by decide, by decide +kernel⟩
theorem pn_X11_newSentence : plainFor yX11_newSentence = true := by decide +kernel
def K_X11_newSentence : ck_cd := [(0, .aload_n 0, 1), (1, .getfield 108, 3), (4, .istore_n 1, 1), (5, .aload_n 0, 1), (6, .dup, 1), (7, .getfield 108, 3), (10, .iconst 1, 1), (11, .iadd, 1), (12, .putfield 108, 3), (15, .iload_n 1, 1), (16, .ireturn, 1)]
theorem k_X11_newSentence : ∀ x ∈ K_X11_newSentence, decode cX11_newSentence x.1 = .ok (x.2.1, x.2.2) := by decide +kernel
def C_X11_newSentence : ck_C := (([(2, 1, [11])], [(11, 1, (0, 2, []))], [(0, 0), (1, 0), (0, 59)], []), [([(0, 3, [])], [], [(1, 0), (1, 0), (1, 0), (0, 59)], [(3, 2, 0), (2, 3, 0)])], [(11, 1)], 0, 0)
def M_X11_newSentence : ck_Me := (4, cw_TT, cw_SG, 2, fl_X11, pl_X11, nw_X11, kl_X11, il_X11, xl_X11, cw_al, [], [(11, 1)], (0, 0), gl_X11)
def I_X11_newSentence : List (Nat × ck_I) := []
def S_X11_newSentence : ck_S := ([(0, (2, 1, [11]))], [], [(11, 1, (0, 2, [])), (0, 1000, (8, 0, [])), (0, 1001, (8, 1, [])), (0, 1002, (8, 2, []))], [(0, 0), (1, 0), (0, 59)], [], 0, 0)
theorem h_X11_newSentence : ck_chk M_X11_newSentence (ck_kr (mF M_X11_newSentence) 3 1 C_X11_newSentence) K_X11_newSentence I_X11_newSentence 3 16 S_X11_newSentence = true := by decide +kernel
theorem o_X11_newSentence : ck_ok5 C_X11_newSentence = true := by decide +kernel
theorem a_X11_newSentence : ck_ca cw_V RX11 cX11_newSentence ⟨0, 0, 0, 0⟩ M_X11_newSentence := fun _ _ _ _ _ _ _ _ _ _ _ _ _ _ _ _ _ _ _ _ h => absurd h List.not_mem_nil
theorem t_X11_newSentence (l : Launch) : ck_met cw_V l yX11_newSentence cX11_newSentence 2 (some .int) ⟨0, 0, 0, 0⟩ C_X11_newSentence :=
  ck_meth (M := M_X11_newSentence) (rt := 1) (pre := []) false pn_X11_newSentence rfl (fun h => by cases h) ⟨rfl, rfl, rfl, rfl, rfl⟩ ⟨rfl, rfl⟩ rfl (by decide) (by decide) (by decide) k_X11_newSentence (tb_X11 ⟨rfl, rfl, rfl, rfl, rfl, rfl, rfl, rfl, rfl⟩) a_X11_newSentence h_X11_newSentence rfl
theorem hd_X11_isSheet : yX11_isSheet.cls ≠ "java/lang/invoke/MethodHandle" ∧ yX11_isSheet.cls ≠ "java/lang/invoke/VarHandle" ∧ (parseMethodDescriptor yX11_isSheet.desc).map (fun d => d.parameters.length) = some 1 := ⟨by decide, by decide, by decide +kernel⟩
theorem he_X11_isSheet : yX11_isSheet.cls ≠ "java/lang/invoke/MethodHandle" ∧ yX11_isSheet.cls ≠ "java/lang/invoke/VarHandle" ∧ (parseMethodDescriptor yX11_isSheet.desc).map (fun d => d.parameters.length + 1) = some 2 := ⟨by decide, by decide, by decide +kernel⟩
theorem pn_X11_isSheet : plainFor yX11_isSheet = true := by decide +kernel
def K_X11_isSheet : ck_cd := [(0, .iload_n 0, 1), (1, .ifCond .lt 12, 3), (4, .iload_n 0, 1), (5, .iconst 4, 1), (6, .if_icmp .ge 7, 3), (9, .iconst 1, 1), (10, .goto 4, 3), (13, .iconst 0, 1), (14, .ireturn, 1)]
theorem k_X11_isSheet : ∀ x ∈ K_X11_isSheet, decode cX11_isSheet x.1 = .ok (x.2.1, x.2.2) := by decide +kernel
def C_X11_isSheet : ck_C := (([(0, 1, [])], [], [(0, 0), ((-2147483648), 2147483647)], []), [([(0, 2, [])], [], [(1, 0), (1, 0), (1, 1)], [(1, 0, 3), (0, 1, 0)]), ([(0, 2, [])], [], [(1, 0), (1, 0), (0, 0)], [])], [], 0, 0)
def M_X11_isSheet : ck_Me := (4, cw_TT, cw_SG, 1, fl_X11, pl_X11, nw_X11, kl_X11, il_X11, xl_X11, cw_al, [], [], (0, 0), gl_X11)
def I_X11_isSheet : List (Nat × ck_I) := []
def S_X11_isSheet : ck_S := ([(0, (0, 1, []))], [], [(0, 1000, (8, 0, [])), (0, 1001, (8, 1, []))], [(0, 0), ((-2147483648), 2147483647)], [], 0, 0)
theorem h_X11_isSheet : ck_chk M_X11_isSheet (ck_kr (mF M_X11_isSheet) 2 2 C_X11_isSheet) K_X11_isSheet I_X11_isSheet 2 14 S_X11_isSheet = true := by decide +kernel
theorem o_X11_isSheet : ck_ok5 C_X11_isSheet = true := by decide +kernel
theorem a_X11_isSheet : ck_ca cw_V RX11 cX11_isSheet ⟨0, 0, 0, 0⟩ M_X11_isSheet := fun _ _ _ _ _ _ _ _ _ _ _ _ _ _ _ _ _ _ _ _ h => absurd h List.not_mem_nil
theorem t_X11_isSheet (l : Launch) : ck_met cw_V l yX11_isSheet cX11_isSheet 1 (some .boolean) ⟨0, 0, 0, 0⟩ C_X11_isSheet :=
  ck_meth (M := M_X11_isSheet) (rt := 2) (pre := []) false pn_X11_isSheet rfl (fun h => by cases h) ⟨rfl, rfl, rfl, rfl, rfl⟩ ⟨rfl, rfl⟩ rfl (by decide) (by decide) (by decide) k_X11_isSheet (tb_X11 ⟨rfl, rfl, rfl, rfl, rfl, rfl, rfl, rfl, rfl⟩) a_X11_isSheet h_X11_isSheet rfl
theorem hd_X11_sentenceAt : yX11_sentenceAt.cls ≠ "java/lang/invoke/MethodHandle" ∧ yX11_sentenceAt.cls ≠ "java/lang/invoke/VarHandle" ∧ (parseMethodDescriptor yX11_sentenceAt.desc).map (fun d => d.parameters.length) = some 1 := ⟨by decide, by decide, by decide +kernel⟩
theorem he_X11_sentenceAt : yX11_sentenceAt.cls ≠ "java/lang/invoke/MethodHandle" ∧ yX11_sentenceAt.cls ≠ "java/lang/invoke/VarHandle" ∧ (parseMethodDescriptor yX11_sentenceAt.desc).map (fun d => d.parameters.length + 1) = some 2 := ⟨by decide, by decide, by decide +kernel⟩
theorem pn_X11_sentenceAt : plainFor yX11_sentenceAt = true := by decide +kernel
def K_X11_sentenceAt : ck_cd := [(0, .iload_n 1, 1), (1, .ifCond .lt 29, 3), (4, .iload_n 1, 1), (5, .aload_n 0, 1), (6, .getfield 108, 3), (9, .if_icmp .ge 21, 3), (12, .iload_n 1, 1), (13, .aload_n 0, 1), (14, .getfield 15, 3), (17, .arraylength, 1), (18, .if_icmp .ge 12, 3), (21, .aload_n 0, 1), (22, .getfield 15, 3), (25, .iload_n 1, 1), (26, .aaload, 1), (27, .goto 4, 3), (30, .aconst_null, 1), (31, .areturn, 1)]
theorem k_X11_sentenceAt : ∀ x ∈ K_X11_sentenceAt, decode cX11_sentenceAt x.1 = .ok (x.2.1, x.2.2) := by decide +kernel
def C_X11_sentenceAt : ck_C := (([(2, 1, [11]), (0, 2, [])], [], [(0, 0), (1, 0), ((-2147483648), 2147483647)], []), [([(2, 3, [1])], [], [(1, 0), (1, 0), (1, 0), (1, 0)], [(2, 0, 59), (0, 2, 0)]), ([(4, 3, [])], [], [(1, 0), (1, 0), (1, 0), (1, 0)], [])], [], 0, 0)
def M_X11_sentenceAt : ck_Me := (4, cw_TT, cw_SG, 2, fl_X11, pl_X11, nw_X11, kl_X11, il_X11, xl_X11, cw_al, [], [], (0, 0), gl_X11)
def I_X11_sentenceAt : List (Nat × ck_I) := []
def S_X11_sentenceAt : ck_S := ([(0, (2, 1, [11])), (1, (0, 2, []))], [], [(0, 1000, (8, 0, [])), (0, 1001, (8, 1, [])), (0, 1002, (8, 2, []))], [(0, 0), (1, 0), ((-2147483648), 2147483647)], [], 0, 0)
theorem h_X11_sentenceAt : ck_chk M_X11_sentenceAt (ck_kr (mF M_X11_sentenceAt) 3 4 C_X11_sentenceAt) K_X11_sentenceAt I_X11_sentenceAt 3 23 S_X11_sentenceAt = true := by decide +kernel
theorem o_X11_sentenceAt : ck_ok5 C_X11_sentenceAt = true := by decide +kernel
theorem a_X11_sentenceAt : ck_ca cw_V RX11 cX11_sentenceAt ⟨0, 0, 0, 0⟩ M_X11_sentenceAt := fun _ _ _ _ _ _ _ _ _ _ _ _ _ _ _ _ _ _ _ _ h => absurd h List.not_mem_nil
theorem t_X11_sentenceAt (l : Launch) : ck_met cw_V l yX11_sentenceAt cX11_sentenceAt 2 (some (.object "ReasonDesk$Bits")) ⟨0, 0, 0, 0⟩ C_X11_sentenceAt :=
  ck_meth (M := M_X11_sentenceAt) (rt := 4) (pre := []) false pn_X11_sentenceAt rfl (fun h => by cases h) ⟨rfl, rfl, rfl, rfl, rfl⟩ ⟨rfl, rfl⟩ ⟨_, rfl, Or.inl ⟨_, rfl⟩⟩ (by decide) (by decide) (by decide) k_X11_sentenceAt (tb_X11 ⟨rfl, rfl, rfl, rfl, rfl, rfl, rfl, rfl, rfl⟩) a_X11_sentenceAt h_X11_sentenceAt rfl
theorem hd_X1_match : yX1_match.cls ≠ "java/lang/invoke/MethodHandle" ∧ yX1_match.cls ≠ "java/lang/invoke/VarHandle" ∧ (parseMethodDescriptor yX1_match.desc).map (fun d => d.parameters.length) = some 1 := ⟨by decide, by decide, by decide +kernel⟩
theorem he_X1_match : yX1_match.cls ≠ "java/lang/invoke/MethodHandle" ∧ yX1_match.cls ≠ "java/lang/invoke/VarHandle" ∧ (parseMethodDescriptor yX1_match.desc).map (fun d => d.parameters.length + 1) = some 2 := ⟨by decide, by decide, by decide +kernel⟩
theorem pn_X1_match : plainFor yX1_match = true := by decide +kernel
def K_X1_match : ck_cd := [(0, .iconst 0, 1), (1, .istore_n 2, 1), (2, .iload_n 2, 1), (3, .aload_n 0, 1), (4, .getfield 13, 3), (7, .arraylength, 1), (8, .if_icmp .ge 41, 3), (11, .iload_n 2, 1), (12, .aload_n 1, 1), (13, .getfield 13, 3), (16, .arraylength, 1), (17, .if_icmp .ge 32, 3), (20, .aload_n 0, 1), (21, .getfield 13, 3), (24, .iload_n 2, 1), (25, .aload_n 0, 1), (26, .getfield 13, 3), (29, .iload_n 2, 1), (30, .laload, 1), (31, .aload_n 1, 1), (32, .getfield 13, 3), (35, .iload_n 2, 1), (36, .laload, 1), (37, .lxor, 1), (38, .ldc2_w 25, 3), (41, .lxor, 1), (42, .lastore, 1), (43, .iinc 2 1, 3), (46, .goto (-44), 3), (49, .return_, 1)]
theorem k_X1_match : ∀ x ∈ K_X1_match, decode cX1_match x.1 = .ok (x.2.1, x.2.2) := by decide +kernel
def C_X1_match : ck_C := (([(2, 1, [1]), (2, 2, [1])], [], [(0, 0), (1, 0), (1, 0)], []), [([], [], [(1, 0), (1, 0), (1, 0)], [])], [(2, 0)], 0, 0)
def M_X1_match : ck_Me := (4, cw_TT, cw_SG, 3, fl_X1, pl_X1, nw_X1, kl_X1, il_X1, xl_X1, cw_al, [], [(2, 0)], (0, 0), gl_X1)
def I_X1_match : List (Nat × ck_I) := [(2, (([(0, (2, 1, [1])), (1, (2, 2, [1])), (2, (0, 3, []))], [], [], [(0, 0), (1, 0), (1, 0), (0, 5)], [], 0, 0), [(1, 3, 6), (0, 0, 1152921504606846976), (0, 0, 1152921504606846976)]))]
def S_X1_match : ck_S := ([(0, (2, 1, [1])), (1, (2, 2, [1]))], [], [(0, 1000, (8, 0, [])), (0, 1001, (8, 1, [])), (0, 1002, (8, 2, []))], [(0, 0), (1, 0), (1, 0)], [], 0, 0)
theorem h_X1_match : ck_chk M_X1_match (ck_kr (mF M_X1_match) 3 0 C_X1_match) K_X1_match I_X1_match 3 35 S_X1_match = true := by decide +kernel
theorem o_X1_match : ck_ok5 C_X1_match = true := by decide +kernel
theorem a_X1_match : ck_ca cw_V RX1 cX1_match ⟨0, 0, 0, 0⟩ M_X1_match := fun _ _ _ _ _ _ _ _ _ _ _ _ _ _ _ _ _ _ _ _ h => absurd h List.not_mem_nil
theorem t_X1_match (l : Launch) : ck_met cw_V l yX1_match cX1_match 3 none ⟨0, 0, 0, 0⟩ C_X1_match :=
  ck_meth (M := M_X1_match) (rt := 0) (pre := []) false pn_X1_match rfl (fun h => by cases h) ⟨rfl, rfl, rfl, rfl, rfl⟩ ⟨rfl, rfl⟩ rfl (by decide) (by decide) (by decide) k_X1_match (tb_X1 ⟨rfl, rfl, rfl, rfl, rfl, rfl, rfl, rfl, rfl⟩) a_X1_match h_X1_match rfl
theorem hd_J13_bitCount_95d88 : yJ13_bitCount_95d88.cls ≠ "java/lang/invoke/MethodHandle" ∧ yJ13_bitCount_95d88.cls ≠ "java/lang/invoke/VarHandle" ∧ (parseMethodDescriptor yJ13_bitCount_95d88.desc).map (fun d => d.parameters.length) = some 1 := ⟨by decide, by decide, by decide +kernel⟩
theorem he_J13_bitCount_95d88 : yJ13_bitCount_95d88.cls ≠ "java/lang/invoke/MethodHandle" ∧ yJ13_bitCount_95d88.cls ≠ "java/lang/invoke/VarHandle" ∧ (parseMethodDescriptor yJ13_bitCount_95d88.desc).map (fun d => d.parameters.length + 1) = some 2 := ⟨by decide, by decide, by decide +kernel⟩
theorem pn_J13_bitCount_95d88 : plainFor yJ13_bitCount_95d88 = true := by decide +kernel
def K_J13_bitCount_95d88 : ck_cd := [(0, .lload_n 0, 1), (1, .lload_n 0, 1), (2, .iconst 1, 1), (3, .lushr, 1), (4, .ldc2_w 314, 3), (7, .land, 1), (8, .lsub, 1), (9, .lstore_n 0, 1), (10, .lload_n 0, 1), (11, .ldc2_w 316, 3), (14, .land, 1), (15, .lload_n 0, 1), (16, .iconst 2, 1), (17, .lushr, 1), (18, .ldc2_w 316, 3), (21, .land, 1), (22, .ladd, 1), (23, .lstore_n 0, 1), (24, .lload_n 0, 1), (25, .lload_n 0, 1), (26, .iconst 4, 1), (27, .lushr, 1), (28, .ladd, 1), (29, .ldc2_w 318, 3), (32, .land, 1), (33, .lstore_n 0, 1), (34, .lload_n 0, 1), (35, .lload_n 0, 1), (36, .bipush 8, 2), (38, .lushr, 1), (39, .ladd, 1), (40, .lstore_n 0, 1), (41, .lload_n 0, 1), (42, .lload_n 0, 1), (43, .bipush 16, 2), (45, .lushr, 1), (46, .ladd, 1), (47, .lstore_n 0, 1), (48, .lload_n 0, 1), (49, .lload_n 0, 1), (50, .bipush 32, 2), (52, .lushr, 1), (53, .ladd, 1), (54, .lstore_n 0, 1), (55, .lload_n 0, 1), (56, .l2i, 1), (57, .bipush 127, 2), (59, .iand, 1), (60, .ireturn, 1)]
theorem k_J13_bitCount_95d88 : ∀ x ∈ K_J13_bitCount_95d88, decode cJ13_bitCount_95d88 x.1 = .ok (x.2.1, x.2.2) := by decide +kernel
def C_J13_bitCount_95d88 : ck_C := (([(1, 1, [])], [], [(0, 0), ((-9223372036854775808), 9223372036854775807)], []), [([(0, 2, [])], [], [(1, 0), (1, 0), (0, 127)], [])], [], 0, 0)
def M_J13_bitCount_95d88 : ck_Me := (4, cw_TT, cw_SG, 2, fl_J13, pl_J13, nw_J13, kl_J13, il_J13, xl_J13, cw_al, [], [], (0, 0), gl_J13)
def I_J13_bitCount_95d88 : List (Nat × ck_I) := []
def S_J13_bitCount_95d88 : ck_S := ([(0, (1, 1, []))], [], [(0, 1000, (8, 0, [])), (0, 1001, (8, 1, []))], [(0, 0), ((-9223372036854775808), 9223372036854775807)], [], 0, 0)
theorem h_J13_bitCount_95d88 : ck_chk M_J13_bitCount_95d88 (ck_kr (mF M_J13_bitCount_95d88) 2 1 C_J13_bitCount_95d88) K_J13_bitCount_95d88 I_J13_bitCount_95d88 2 54 S_J13_bitCount_95d88 = true := by decide +kernel
theorem o_J13_bitCount_95d88 : ck_ok5 C_J13_bitCount_95d88 = true := by decide +kernel
theorem a_J13_bitCount_95d88 : ck_ca cw_V RJ13 cJ13_bitCount_95d88 ⟨0, 0, 0, 0⟩ M_J13_bitCount_95d88 := fun _ _ _ _ _ _ _ _ _ _ _ _ _ _ _ _ _ _ _ _ h => absurd h List.not_mem_nil
theorem t_J13_bitCount_95d88 (l : Launch) : ck_met cw_V l yJ13_bitCount_95d88 cJ13_bitCount_95d88 2 (some .int) ⟨0, 0, 0, 0⟩ C_J13_bitCount_95d88 :=
  ck_meth (M := M_J13_bitCount_95d88) (rt := 1) (pre := []) false pn_J13_bitCount_95d88 rfl (fun h => by cases h) ⟨rfl, rfl, rfl, rfl, rfl⟩ ⟨rfl, rfl⟩ rfl (by decide) (by decide) (by decide) k_J13_bitCount_95d88 (tb_J13 ⟨rfl, rfl, rfl, rfl, rfl, rfl, rfl, rfl, rfl⟩) a_J13_bitCount_95d88 h_J13_bitCount_95d88 rfl
theorem hd_X1_size : yX1_size.cls ≠ "java/lang/invoke/MethodHandle" ∧ yX1_size.cls ≠ "java/lang/invoke/VarHandle" ∧ (parseMethodDescriptor yX1_size.desc).map (fun d => d.parameters.length) = some 0 := ⟨by decide, by decide, by decide +kernel⟩
theorem he_X1_size : yX1_size.cls ≠ "java/lang/invoke/MethodHandle" ∧ yX1_size.cls ≠ "java/lang/invoke/VarHandle" ∧ (parseMethodDescriptor yX1_size.desc).map (fun d => d.parameters.length + 1) = some 1 := ⟨by decide, by decide, by decide +kernel⟩
theorem pn_X1_size : plainFor yX1_size = true := by decide +kernel
def K_X1_size : ck_cd := [(0, .iconst 0, 1), (1, .istore_n 1, 1), (2, .iconst 0, 1), (3, .istore_n 2, 1), (4, .iload_n 2, 1), (5, .aload_n 0, 1), (6, .getfield 13, 3), (9, .arraylength, 1), (10, .if_icmp .ge 21, 3), (13, .iload_n 1, 1), (14, .aload_n 0, 1), (15, .getfield 13, 3), (18, .iload_n 2, 1), (19, .laload, 1), (20, .invokestatic 46, 3), (23, .iadd, 1), (24, .istore_n 1, 1), (25, .iinc 2 1, 3), (28, .goto (-24), 3), (31, .iload_n 1, 1), (32, .ireturn, 1)]
theorem k_X1_size : ∀ x ∈ K_X1_size, decode cX1_size x.1 = .ok (x.2.1, x.2.2) := by decide +kernel
def C_X1_size : ck_C := (([(2, 1, [1])], [], [(0, 0), (1, 0)], []), [([(0, 2, [])], [], [(1, 0), (1, 0), ((-2147483648), 2147483647)], [])], [], 0, 0)
def M_X1_size : ck_Me := (4, cw_TT, cw_SG, 3, fl_X1, pl_X1, nw_X1, kl_X1, il_X1, xl_X1, cw_al, [(3 * 46 + 1, 0, 1, C_J13_bitCount_95d88)], [], (0, 0), gl_X1)
def I_X1_size : List (Nat × ck_I) := [(4, (([(0, (2, 1, [1])), (1, (0, 2, [])), (2, (0, 3, []))], [], [], [(0, 0), (1, 0), ((-2147483648), 2147483647), (0, 5)], [], 0, 0), [(1, 3, 6), (0, 0, 1152921504606846976), (0, 0, 1152921504606846976)]))]
def S_X1_size : ck_S := ([(0, (2, 1, [1]))], [], [(0, 1000, (8, 0, [])), (0, 1001, (8, 1, []))], [(0, 0), (1, 0)], [], 0, 0)
theorem h_X1_size : ck_chk M_X1_size (ck_kr (mF M_X1_size) 2 1 C_X1_size) K_X1_size I_X1_size 2 26 S_X1_size = true := by decide +kernel
theorem o_X1_size : ck_ok5 C_X1_size = true := by decide +kernel
theorem a_X1_size : ck_ca cw_V RX1 cX1_size ⟨1, 0, 0, 21⟩ M_X1_size := fun _ l _ _ _ _ _ _ _ _ _ _ _ _ X hts htl hsw hnq =>
  (List.forall_mem_cons.mpr ⟨ck_cs_S (t_J13_bitCount_95d88 l) X hts htl hsw hnq ⟨rfl, rfl⟩ o_J13_bitCount_95d88 cw_good (ck_m4 tw_538 tw_539 tw_106 tw_540) hd_J13_bitCount_95d88 ⟨rfl, rfl⟩ ⟨by decide, by decide⟩, (fun _ h => absurd h List.not_mem_nil)⟩)
theorem t_X1_size (l : Launch) : ck_met cw_V l yX1_size cX1_size 3 (some .int) ⟨1, 0, 0, 21⟩ C_X1_size :=
  ck_meth (M := M_X1_size) (rt := 1) (pre := []) false pn_X1_size rfl (fun h => by cases h) ⟨rfl, rfl, rfl, rfl, rfl⟩ ⟨rfl, rfl⟩ rfl (by decide) (by decide) (by decide) k_X1_size (tb_X1 ⟨rfl, rfl, rfl, rfl, rfl, rfl, rfl, rfl, rfl⟩) a_X1_size h_X1_size rfl
theorem hd_X11_worlds : yX11_worlds.cls ≠ "java/lang/invoke/MethodHandle" ∧ yX11_worlds.cls ≠ "java/lang/invoke/VarHandle" ∧ (parseMethodDescriptor yX11_worlds.desc).map (fun d => d.parameters.length) = some 1 := ⟨by decide, by decide, by decide +kernel⟩
theorem he_X11_worlds : yX11_worlds.cls ≠ "java/lang/invoke/MethodHandle" ∧ yX11_worlds.cls ≠ "java/lang/invoke/VarHandle" ∧ (parseMethodDescriptor yX11_worlds.desc).map (fun d => d.parameters.length + 1) = some 2 := ⟨by decide, by decide, by decide +kernel⟩
theorem pn_X11_worlds : plainFor yX11_worlds = true := by decide +kernel
def K_X11_worlds : ck_cd := [(0, .aload_n 0, 1), (1, .iload_n 1, 1), (2, .invokevirtual 127, 3), (5, .astore_n 2, 1), (6, .aload_n 2, 1), (7, .ifnonnull 7, 3), (10, .iconst (-1), 1), (11, .goto 7, 3), (14, .aload_n 2, 1), (15, .invokevirtual 146, 3), (18, .ireturn, 1)]
theorem k_X11_worlds : ∀ x ∈ K_X11_worlds, decode cX11_worlds x.1 = .ok (x.2.1, x.2.2) := by decide +kernel
def C_X11_worlds : ck_C := (([(2, 1, [11]), (0, 2, [])], [], [(0, 0), (1, 0), ((-2147483648), 2147483647)], []), [([(0, 3, [])], [], [(1, 0), (1, 0), (1, 0), ((-1), (-1))], []), ([(0, 3, [])], [], [(1, 0), (1, 0), (1, 0), ((-2147483648), 2147483647)], [(2, 0, 59), (0, 2, 0)])], [], 0, 0)
def M_X11_worlds : ck_Me := (4, cw_TT, cw_SG, 3, fl_X11, pl_X11, nw_X11, kl_X11, il_X11, xl_X11, cw_al, [(3 * 127, 11, 2, C_X11_sentenceAt), (3 * 146, 1, 1, C_X1_size)], [], (0, 0), gl_X11)
def I_X11_worlds : List (Nat × ck_I) := []
def S_X11_worlds : ck_S := ([(0, (2, 1, [11])), (1, (0, 2, []))], [], [(0, 1000, (8, 0, [])), (0, 1001, (8, 1, [])), (0, 1002, (8, 2, []))], [(0, 0), (1, 0), ((-2147483648), 2147483647)], [], 0, 0)
theorem h_X11_worlds : ck_chk M_X11_worlds (ck_kr (mF M_X11_worlds) 3 1 C_X11_worlds) K_X11_worlds I_X11_worlds 3 16 S_X11_worlds = true := by decide +kernel
theorem o_X11_worlds : ck_ok5 C_X11_worlds = true := by decide +kernel
theorem a_X11_worlds : ck_ca cw_V RX11 cX11_worlds ⟨2, 0, 0, 43⟩ M_X11_worlds := fun _ l _ _ _ _ _ _ _ _ _ _ _ _ X hts htl hsw hnq =>
  (List.forall_mem_cons.mpr ⟨ck_cs_V (t_X11_sentenceAt l) X hts htl hsw hnq ⟨rfl, rfl⟩ o_X11_sentenceAt cw_good (ck_m5 tw_518 tw_520 tw_8 tw_95 tw_521) (by decide) rfl rfl rfl he_X11_sentenceAt ⟨rfl, rfl⟩ ⟨by decide, by decide⟩, (List.forall_mem_cons.mpr ⟨ck_cs_V (t_X1_size l) X hts htl hsw hnq ⟨rfl, rfl⟩ o_X1_size cw_good (ck_m5 tw_534 tw_535 tw_536 tw_97 tw_537) (by decide) rfl rfl rfl he_X1_size ⟨rfl, rfl⟩ ⟨by decide, by decide⟩, (fun _ h => absurd h List.not_mem_nil)⟩)⟩)
theorem t_X11_worlds (l : Launch) : ck_met cw_V l yX11_worlds cX11_worlds 3 (some .int) ⟨2, 0, 0, 43⟩ C_X11_worlds :=
  ck_meth (M := M_X11_worlds) (rt := 1) (pre := []) false pn_X11_worlds rfl (fun h => by cases h) ⟨rfl, rfl, rfl, rfl, rfl⟩ ⟨rfl, rfl⟩ rfl (by decide) (by decide) (by decide) k_X11_worlds (tb_X11 ⟨rfl, rfl, rfl, rfl, rfl, rfl, rfl, rfl, rfl⟩) a_X11_worlds h_X11_worlds rfl
theorem hd_X11_isWorld : yX11_isWorld.cls ≠ "java/lang/invoke/MethodHandle" ∧ yX11_isWorld.cls ≠ "java/lang/invoke/VarHandle" ∧ (parseMethodDescriptor yX11_isWorld.desc).map (fun d => d.parameters.length) = some 1 := ⟨by decide, by decide, by decide +kernel⟩
theorem he_X11_isWorld : yX11_isWorld.cls ≠ "java/lang/invoke/MethodHandle" ∧ yX11_isWorld.cls ≠ "java/lang/invoke/VarHandle" ∧ (parseMethodDescriptor yX11_isWorld.desc).map (fun d => d.parameters.length + 1) = some 2 := ⟨by decide, by decide, by decide +kernel⟩
theorem pn_X11_isWorld : plainFor yX11_isWorld = true := by decide +kernel
def K_X11_isWorld : ck_cd := [(0, .iload_n 0, 1), (1, .ifCond .lt 14, 3), (4, .iload_n 0, 1), (5, .sipush 256, 3), (8, .if_icmp .ge 7, 3), (11, .iconst 1, 1), (12, .goto 4, 3), (15, .iconst 0, 1), (16, .ireturn, 1)]
theorem k_X11_isWorld : ∀ x ∈ K_X11_isWorld, decode cX11_isWorld x.1 = .ok (x.2.1, x.2.2) := by decide +kernel
def C_X11_isWorld : ck_C := (([(0, 1, [])], [], [(0, 0), ((-2147483648), 2147483647)], []), [([(0, 2, [])], [], [(1, 0), (1, 0), (1, 1)], [(1, 0, 255), (0, 1, 0)]), ([(0, 2, [])], [], [(1, 0), (1, 0), (0, 0)], [])], [], 0, 0)
def M_X11_isWorld : ck_Me := (4, cw_TT, cw_SG, 1, fl_X11, pl_X11, nw_X11, kl_X11, il_X11, xl_X11, cw_al, [], [], (0, 0), gl_X11)
def I_X11_isWorld : List (Nat × ck_I) := []
def S_X11_isWorld : ck_S := ([(0, (0, 1, []))], [], [(0, 1000, (8, 0, [])), (0, 1001, (8, 1, []))], [(0, 0), ((-2147483648), 2147483647)], [], 0, 0)
theorem h_X11_isWorld : ck_chk M_X11_isWorld (ck_kr (mF M_X11_isWorld) 2 2 C_X11_isWorld) K_X11_isWorld I_X11_isWorld 2 14 S_X11_isWorld = true := by decide +kernel
theorem o_X11_isWorld : ck_ok5 C_X11_isWorld = true := by decide +kernel
theorem a_X11_isWorld : ck_ca cw_V RX11 cX11_isWorld ⟨0, 0, 0, 0⟩ M_X11_isWorld := fun _ _ _ _ _ _ _ _ _ _ _ _ _ _ _ _ _ _ _ _ h => absurd h List.not_mem_nil
theorem t_X11_isWorld (l : Launch) : ck_met cw_V l yX11_isWorld cX11_isWorld 1 (some .boolean) ⟨0, 0, 0, 0⟩ C_X11_isWorld :=
  ck_meth (M := M_X11_isWorld) (rt := 2) (pre := []) false pn_X11_isWorld rfl (fun h => by cases h) ⟨rfl, rfl, rfl, rfl, rfl⟩ ⟨rfl, rfl⟩ rfl (by decide) (by decide) (by decide) k_X11_isWorld (tb_X11 ⟨rfl, rfl, rfl, rfl, rfl, rfl, rfl, rfl, rfl⟩) a_X11_isWorld h_X11_isWorld rfl
theorem hd_X1_has : yX1_has.cls ≠ "java/lang/invoke/MethodHandle" ∧ yX1_has.cls ≠ "java/lang/invoke/VarHandle" ∧ (parseMethodDescriptor yX1_has.desc).map (fun d => d.parameters.length) = some 1 := ⟨by decide, by decide, by decide +kernel⟩
theorem he_X1_has : yX1_has.cls ≠ "java/lang/invoke/MethodHandle" ∧ yX1_has.cls ≠ "java/lang/invoke/VarHandle" ∧ (parseMethodDescriptor yX1_has.desc).map (fun d => d.parameters.length + 1) = some 2 := ⟨by decide, by decide, by decide +kernel⟩
theorem pn_X1_has : plainFor yX1_has = true := by decide +kernel
def K_X1_has : ck_cd := [(0, .iload_n 1, 1), (1, .bipush 6, 2), (3, .ishr, 1), (4, .istore_n 2, 1), (5, .iload_n 2, 1), (6, .ifCond .lt 34, 3), (9, .iload_n 2, 1), (10, .aload_n 0, 1), (11, .getfield 13, 3), (14, .arraylength, 1), (15, .if_icmp .ge 25, 3), (18, .aload_n 0, 1), (19, .getfield 13, 3), (22, .iload_n 2, 1), (23, .laload, 1), (24, .iload_n 1, 1), (25, .bipush 63, 2), (27, .iand, 1), (28, .lushr, 1), (29, .lconst 1, 1), (30, .land, 1), (31, .lconst 1, 1), (32, .lcmp, 1), (33, .ifCond .ne 7, 3), (36, .iconst 1, 1), (37, .goto 4, 3), (40, .iconst 0, 1), (41, .ireturn, 1)]
theorem k_X1_has : ∀ x ∈ K_X1_has, decode cX1_has x.1 = .ok (x.2.1, x.2.2) := by decide +kernel
def C_X1_has : ck_C := (([(2, 1, [1]), (0, 2, [])], [], [(0, 0), (1, 0), ((-2147483648), 2147483647)], []), [([(0, 3, [])], [], [(1, 0), (1, 0), (1, 0), (1, 1)], []), ([(0, 3, [])], [], [(1, 0), (1, 0), (1, 0), (0, 0)], [])], [], 0, 0)
def M_X1_has : ck_Me := (4, cw_TT, cw_SG, 3, fl_X1, pl_X1, nw_X1, kl_X1, il_X1, xl_X1, cw_al, [], [], (0, 0), gl_X1)
def I_X1_has : List (Nat × ck_I) := []
def S_X1_has : ck_S := ([(0, (2, 1, [1])), (1, (0, 2, []))], [], [(0, 1000, (8, 0, [])), (0, 1001, (8, 1, [])), (0, 1002, (8, 2, []))], [(0, 0), (1, 0), ((-2147483648), 2147483647)], [], 0, 0)
theorem h_X1_has : ck_chk M_X1_has (ck_kr (mF M_X1_has) 3 2 C_X1_has) K_X1_has I_X1_has 3 33 S_X1_has = true := by decide +kernel
theorem o_X1_has : ck_ok5 C_X1_has = true := by decide +kernel
theorem a_X1_has : ck_ca cw_V RX1 cX1_has ⟨0, 0, 0, 0⟩ M_X1_has := fun _ _ _ _ _ _ _ _ _ _ _ _ _ _ _ _ _ _ _ _ h => absurd h List.not_mem_nil
theorem t_X1_has (l : Launch) : ck_met cw_V l yX1_has cX1_has 3 (some .boolean) ⟨0, 0, 0, 0⟩ C_X1_has :=
  ck_meth (M := M_X1_has) (rt := 2) (pre := []) false pn_X1_has rfl (fun h => by cases h) ⟨rfl, rfl, rfl, rfl, rfl⟩ ⟨rfl, rfl⟩ rfl (by decide) (by decide) (by decide) k_X1_has (tb_X1 ⟨rfl, rfl, rfl, rfl, rfl, rfl, rfl, rfl, rfl⟩) a_X1_has h_X1_has rfl
theorem hd_X11_truth : yX11_truth.cls ≠ "java/lang/invoke/MethodHandle" ∧ yX11_truth.cls ≠ "java/lang/invoke/VarHandle" ∧ (parseMethodDescriptor yX11_truth.desc).map (fun d => d.parameters.length) = some 2 := ⟨by decide, by decide, by decide +kernel⟩
theorem he_X11_truth : yX11_truth.cls ≠ "java/lang/invoke/MethodHandle" ∧ yX11_truth.cls ≠ "java/lang/invoke/VarHandle" ∧ (parseMethodDescriptor yX11_truth.desc).map (fun d => d.parameters.length + 1) = some 3 := ⟨by decide, by decide, by decide +kernel⟩
theorem pn_X11_truth : plainFor yX11_truth = true := by decide +kernel
def K_X11_truth : ck_cd := [(0, .aload_n 0, 1), (1, .iload_n 1, 1), (2, .invokevirtual 127, 3), (5, .astore_n 3, 1), (6, .aload_n 3, 1), (7, .ifnull 10, 3), (10, .iload_n 2, 1), (11, .invokestatic 149, 3), (14, .ifCond .ne 5, 3), (17, .iconst (-1), 1), (18, .ireturn, 1), (19, .aload_n 3, 1), (20, .iload_n 2, 1), (21, .invokevirtual 152, 3), (24, .ifCond .eq 7, 3), (27, .iconst 1, 1), (28, .goto 4, 3), (31, .iconst 0, 1), (32, .ireturn, 1)]
theorem k_X11_truth : ∀ x ∈ K_X11_truth, decode cX11_truth x.1 = .ok (x.2.1, x.2.2) := by decide +kernel
def C_X11_truth : ck_C := (([(2, 1, [11]), (0, 2, []), (0, 3, [])], [], [(0, 0), (1, 0), ((-2147483648), 2147483647), ((-2147483648), 2147483647)], []), [([(0, 4, [])], [], [(1, 0), (1, 0), (1, 0), (1, 0), ((-1), (-1))], []), ([(0, 4, [])], [], [(1, 0), (1, 0), (1, 0), (1, 0), (0, 0)], [(2, 0, 59), (0, 2, 0), (3, 0, 255), (0, 3, 0)]), ([(0, 4, [])], [], [(1, 0), (1, 0), (1, 0), (1, 0), (1, 1)], [(2, 0, 59), (0, 2, 0), (3, 0, 255), (0, 3, 0)])], [], 0, 0)
def M_X11_truth : ck_Me := (4, cw_TT, cw_SG, 4, fl_X11, pl_X11, nw_X11, kl_X11, il_X11, xl_X11, cw_al, [(3 * 127, 11, 2, C_X11_sentenceAt), (3 * 149 + 1, 0, 1, C_X11_isWorld), (3 * 152, 1, 2, C_X1_has)], [], (0, 0), gl_X11)
def I_X11_truth : List (Nat × ck_I) := []
def S_X11_truth : ck_S := ([(0, (2, 1, [11])), (1, (0, 2, [])), (2, (0, 3, []))], [], [(0, 1000, (8, 0, [])), (0, 1001, (8, 1, [])), (0, 1002, (8, 2, [])), (0, 1003, (8, 3, []))], [(0, 0), (1, 0), ((-2147483648), 2147483647), ((-2147483648), 2147483647)], [], 0, 0)
theorem h_X11_truth : ck_chk M_X11_truth (ck_kr (mF M_X11_truth) 4 1 C_X11_truth) K_X11_truth I_X11_truth 4 24 S_X11_truth = true := by decide +kernel
theorem o_X11_truth : ck_ok5 C_X11_truth = true := by decide +kernel
theorem a_X11_truth : ck_ca cw_V RX11 cX11_truth ⟨1, 0, 0, 22⟩ M_X11_truth := fun _ l _ _ _ _ _ _ _ _ _ _ _ _ X hts htl hsw hnq =>
  (List.forall_mem_cons.mpr ⟨ck_cs_V (t_X11_sentenceAt l) X hts htl hsw hnq ⟨rfl, rfl⟩ o_X11_sentenceAt cw_good (ck_m5 tw_518 tw_520 tw_8 tw_95 tw_521) (by decide) rfl rfl rfl he_X11_sentenceAt ⟨rfl, rfl⟩ ⟨by decide, by decide⟩, (List.forall_mem_cons.mpr ⟨ck_cs_S (t_X11_isWorld l) X hts htl hsw hnq ⟨rfl, rfl⟩ o_X11_isWorld cw_good (ck_m4 tw_548 tw_549 tw_95 tw_550) hd_X11_isWorld ⟨rfl, rfl⟩ ⟨by decide, by decide⟩, (List.forall_mem_cons.mpr ⟨ck_cs_V (t_X1_has l) X hts htl hsw hnq ⟨rfl, rfl⟩ o_X1_has cw_good (ck_m5 tw_551 tw_552 tw_553 tw_97 tw_554) (by decide) rfl rfl rfl he_X1_has ⟨rfl, rfl⟩ ⟨by decide, by decide⟩, (fun _ h => absurd h List.not_mem_nil)⟩)⟩)⟩)
theorem t_X11_truth (l : Launch) : ck_met cw_V l yX11_truth cX11_truth 4 (some .int) ⟨1, 0, 0, 22⟩ C_X11_truth :=
  ck_meth (M := M_X11_truth) (rt := 1) (pre := []) false pn_X11_truth rfl (fun h => by cases h) ⟨rfl, rfl, rfl, rfl, rfl⟩ ⟨rfl, rfl⟩ rfl (by decide) (by decide) (by decide) k_X11_truth (tb_X11 ⟨rfl, rfl, rfl, rfl, rfl, rfl, rfl, rfl, rfl⟩) a_X11_truth h_X11_truth rfl
theorem hd_X1_within : yX1_within.cls ≠ "java/lang/invoke/MethodHandle" ∧ yX1_within.cls ≠ "java/lang/invoke/VarHandle" ∧ (parseMethodDescriptor yX1_within.desc).map (fun d => d.parameters.length) = some 1 := ⟨by decide, by decide, by decide +kernel⟩
theorem he_X1_within : yX1_within.cls ≠ "java/lang/invoke/MethodHandle" ∧ yX1_within.cls ≠ "java/lang/invoke/VarHandle" ∧ (parseMethodDescriptor yX1_within.desc).map (fun d => d.parameters.length + 1) = some 2 := ⟨by decide, by decide, by decide +kernel⟩
theorem pn_X1_within : plainFor yX1_within = true := by decide +kernel
def K_X1_within : ck_cd := [(0, .iconst 0, 1), (1, .istore_n 2, 1), (2, .iload_n 2, 1), (3, .aload_n 0, 1), (4, .getfield 13, 3), (7, .arraylength, 1), (8, .if_icmp .ge 42, 3), (11, .iload_n 2, 1), (12, .aload_n 1, 1), (13, .getfield 13, 3), (16, .arraylength, 1), (17, .if_icmp .ge 33, 3), (20, .aload_n 0, 1), (21, .getfield 13, 3), (24, .iload_n 2, 1), (25, .laload, 1), (26, .aload_n 1, 1), (27, .getfield 13, 3), (30, .iload_n 2, 1), (31, .laload, 1), (32, .ldc2_w 25, 3), (35, .lxor, 1), (36, .land, 1), (37, .lconst 0, 1), (38, .lcmp, 1), (39, .ifCond .eq 5, 3), (42, .iconst 0, 1), (43, .ireturn, 1), (44, .iinc 2 1, 3), (47, .goto (-45), 3), (50, .iconst 1, 1), (51, .ireturn, 1)]
theorem k_X1_within : ∀ x ∈ K_X1_within, decode cX1_within x.1 = .ok (x.2.1, x.2.2) := by decide +kernel
def C_X1_within : ck_C := (([(2, 1, [1]), (2, 2, [1])], [], [(0, 0), (1, 0), (1, 0)], []), [([(0, 3, [])], [], [(1, 0), (1, 0), (1, 0), (0, 0)], []), ([(0, 3, [])], [], [(1, 0), (1, 0), (1, 0), (1, 1)], [])], [], 0, 0)
def M_X1_within : ck_Me := (4, cw_TT, cw_SG, 3, fl_X1, pl_X1, nw_X1, kl_X1, il_X1, xl_X1, cw_al, [], [], (0, 0), gl_X1)
def I_X1_within : List (Nat × ck_I) := [(2, (([(0, (2, 1, [1])), (1, (2, 2, [1])), (2, (0, 3, []))], [], [], [(0, 0), (1, 0), (1, 0), (0, 5)], [], 0, 0), [(1, 3, 6), (0, 0, 1152921504606846976), (0, 0, 1152921504606846976)]))]
def S_X1_within : ck_S := ([(0, (2, 1, [1])), (1, (2, 2, [1]))], [], [(0, 1000, (8, 0, [])), (0, 1001, (8, 1, [])), (0, 1002, (8, 2, []))], [(0, 0), (1, 0), (1, 0)], [], 0, 0)
theorem h_X1_within : ck_chk M_X1_within (ck_kr (mF M_X1_within) 3 2 C_X1_within) K_X1_within I_X1_within 3 37 S_X1_within = true := by decide +kernel
theorem o_X1_within : ck_ok5 C_X1_within = true := by decide +kernel
theorem a_X1_within : ck_ca cw_V RX1 cX1_within ⟨0, 0, 0, 0⟩ M_X1_within := fun _ _ _ _ _ _ _ _ _ _ _ _ _ _ _ _ _ _ _ _ h => absurd h List.not_mem_nil
theorem t_X1_within (l : Launch) : ck_met cw_V l yX1_within cX1_within 3 (some .boolean) ⟨0, 0, 0, 0⟩ C_X1_within :=
  ck_meth (M := M_X1_within) (rt := 2) (pre := []) false pn_X1_within rfl (fun h => by cases h) ⟨rfl, rfl, rfl, rfl, rfl⟩ ⟨rfl, rfl⟩ rfl (by decide) (by decide) (by decide) k_X1_within (tb_X1 ⟨rfl, rfl, rfl, rfl, rfl, rfl, rfl, rfl, rfl⟩) a_X1_within h_X1_within rfl
theorem hd_X1_apart : yX1_apart.cls ≠ "java/lang/invoke/MethodHandle" ∧ yX1_apart.cls ≠ "java/lang/invoke/VarHandle" ∧ (parseMethodDescriptor yX1_apart.desc).map (fun d => d.parameters.length) = some 1 := ⟨by decide, by decide, by decide +kernel⟩
theorem he_X1_apart : yX1_apart.cls ≠ "java/lang/invoke/MethodHandle" ∧ yX1_apart.cls ≠ "java/lang/invoke/VarHandle" ∧ (parseMethodDescriptor yX1_apart.desc).map (fun d => d.parameters.length + 1) = some 2 := ⟨by decide, by decide, by decide +kernel⟩
theorem pn_X1_apart : plainFor yX1_apart = true := by decide +kernel
def K_X1_apart : ck_cd := [(0, .iconst 0, 1), (1, .istore_n 2, 1), (2, .iload_n 2, 1), (3, .aload_n 0, 1), (4, .getfield 13, 3), (7, .arraylength, 1), (8, .if_icmp .ge 38, 3), (11, .iload_n 2, 1), (12, .aload_n 1, 1), (13, .getfield 13, 3), (16, .arraylength, 1), (17, .if_icmp .ge 29, 3), (20, .aload_n 0, 1), (21, .getfield 13, 3), (24, .iload_n 2, 1), (25, .laload, 1), (26, .aload_n 1, 1), (27, .getfield 13, 3), (30, .iload_n 2, 1), (31, .laload, 1), (32, .land, 1), (33, .lconst 0, 1), (34, .lcmp, 1), (35, .ifCond .eq 5, 3), (38, .iconst 0, 1), (39, .ireturn, 1), (40, .iinc 2 1, 3), (43, .goto (-41), 3), (46, .iconst 1, 1), (47, .ireturn, 1)]
theorem k_X1_apart : ∀ x ∈ K_X1_apart, decode cX1_apart x.1 = .ok (x.2.1, x.2.2) := by decide +kernel
def C_X1_apart : ck_C := (([(2, 1, [1]), (2, 2, [1])], [], [(0, 0), (1, 0), (1, 0)], []), [([(0, 3, [])], [], [(1, 0), (1, 0), (1, 0), (0, 0)], []), ([(0, 3, [])], [], [(1, 0), (1, 0), (1, 0), (1, 1)], [])], [], 0, 0)
def M_X1_apart : ck_Me := (4, cw_TT, cw_SG, 3, fl_X1, pl_X1, nw_X1, kl_X1, il_X1, xl_X1, cw_al, [], [], (0, 0), gl_X1)
def I_X1_apart : List (Nat × ck_I) := [(2, (([(0, (2, 1, [1])), (1, (2, 2, [1])), (2, (0, 3, []))], [], [], [(0, 0), (1, 0), (1, 0), (0, 5)], [], 0, 0), [(1, 3, 6), (0, 0, 1152921504606846976), (0, 0, 1152921504606846976)]))]
def S_X1_apart : ck_S := ([(0, (2, 1, [1])), (1, (2, 2, [1]))], [], [(0, 1000, (8, 0, [])), (0, 1001, (8, 1, [])), (0, 1002, (8, 2, []))], [(0, 0), (1, 0), (1, 0)], [], 0, 0)
theorem h_X1_apart : ck_chk M_X1_apart (ck_kr (mF M_X1_apart) 3 2 C_X1_apart) K_X1_apart I_X1_apart 3 35 S_X1_apart = true := by decide +kernel
theorem o_X1_apart : ck_ok5 C_X1_apart = true := by decide +kernel
theorem a_X1_apart : ck_ca cw_V RX1 cX1_apart ⟨0, 0, 0, 0⟩ M_X1_apart := fun _ _ _ _ _ _ _ _ _ _ _ _ _ _ _ _ _ _ _ _ h => absurd h List.not_mem_nil
theorem t_X1_apart (l : Launch) : ck_met cw_V l yX1_apart cX1_apart 3 (some .boolean) ⟨0, 0, 0, 0⟩ C_X1_apart :=
  ck_meth (M := M_X1_apart) (rt := 2) (pre := []) false pn_X1_apart rfl (fun h => by cases h) ⟨rfl, rfl, rfl, rfl, rfl⟩ ⟨rfl, rfl⟩ rfl (by decide) (by decide) (by decide) k_X1_apart (tb_X1 ⟨rfl, rfl, rfl, rfl, rfl, rfl, rfl, rfl, rfl⟩) a_X1_apart h_X1_apart rfl
theorem hd_X11_compare : yX11_compare.cls ≠ "java/lang/invoke/MethodHandle" ∧ yX11_compare.cls ≠ "java/lang/invoke/VarHandle" ∧ (parseMethodDescriptor yX11_compare.desc).map (fun d => d.parameters.length) = some 2 := ⟨by decide, by decide, by decide +kernel⟩
theorem he_X11_compare : yX11_compare.cls ≠ "java/lang/invoke/MethodHandle" ∧ yX11_compare.cls ≠ "java/lang/invoke/VarHandle" ∧ (parseMethodDescriptor yX11_compare.desc).map (fun d => d.parameters.length + 1) = some 3 := ⟨by decide, by decide, by decide +kernel⟩
theorem pn_X11_compare : plainFor yX11_compare = true := by decide +kernel
def K_X11_compare : ck_cd := [(0, .aload_n 0, 1), (1, .iload_n 1, 1), (2, .invokevirtual 127, 3), (5, .astore_n 3, 1), (6, .aload_n 0, 1), (7, .iload_n 2, 1), (8, .invokevirtual 127, 3), (11, .astore 4, 2), (13, .aload_n 3, 1), (14, .ifnull 8, 3), (17, .aload 4, 2), (19, .ifnonnull 5, 3), (22, .iconst (-1), 1), (23, .ireturn, 1), (24, .aload_n 3, 1), (25, .aload 4, 2), (27, .invokevirtual 155, 3), (30, .istore 5, 2), (32, .aload 4, 2), (34, .aload_n 3, 1), (35, .invokevirtual 155, 3), (38, .istore 6, 2), (40, .iload 5, 2), (42, .ifCond .eq 10, 3), (45, .iload 6, 2), (47, .ifCond .eq 5, 3), (50, .iconst 3, 1), (51, .ireturn, 1), (52, .iload 5, 2), (54, .ifCond .eq 5, 3), (57, .iconst 1, 1), (58, .ireturn, 1), (59, .iload 6, 2), (61, .ifCond .eq 5, 3), (64, .iconst 2, 1), (65, .ireturn, 1), (66, .aload_n 3, 1), (67, .aload 4, 2), (69, .invokevirtual 159, 3), (72, .ifCond .eq 7, 3), (75, .iconst 4, 1), (76, .goto 4, 3), (79, .iconst 0, 1), (80, .ireturn, 1)]
theorem k_X11_compare : ∀ x ∈ K_X11_compare, decode cX11_compare x.1 = .ok (x.2.1, x.2.2) := by decide +kernel
def C_X11_compare : ck_C := (([(2, 1, [11]), (0, 2, []), (0, 3, [])], [], [(0, 0), (1, 0), ((-2147483648), 2147483647), ((-2147483648), 2147483647)], []), [([(0, 4, [])], [], [(1, 0), (1, 0), (1, 0), (1, 0), ((-1), (-1))], []), ([(0, 4, [])], [], [(1, 0), (1, 0), (1, 0), (1, 0), (3, 3)], [(2, 0, 59), (0, 2, 0), (3, 0, 59), (0, 3, 0)]), ([(0, 4, [])], [], [(1, 0), (1, 0), (1, 0), (1, 0), (1, 1)], [(2, 0, 59), (0, 2, 0), (3, 0, 59), (0, 3, 0)]), ([(0, 4, [])], [], [(1, 0), (1, 0), (1, 0), (1, 0), (2, 2)], [(2, 0, 59), (0, 2, 0), (3, 0, 59), (0, 3, 0)]), ([(0, 4, [])], [], [(1, 0), (1, 0), (1, 0), (1, 0), (4, 4)], [(2, 0, 59), (0, 2, 0), (3, 0, 59), (0, 3, 0)]), ([(0, 4, [])], [], [(1, 0), (1, 0), (1, 0), (1, 0), (0, 0)], [(2, 0, 59), (0, 2, 0), (3, 0, 59), (0, 3, 0)])], [], 0, 0)
def M_X11_compare : ck_Me := (4, cw_TT, cw_SG, 7, fl_X11, pl_X11, nw_X11, kl_X11, il_X11, xl_X11, cw_al, [(3 * 127, 11, 2, C_X11_sentenceAt), (3 * 155, 1, 2, C_X1_within), (3 * 159, 1, 2, C_X1_apart)], [], (0, 0), gl_X11)
def I_X11_compare : List (Nat × ck_I) := []
def S_X11_compare : ck_S := ([(0, (2, 1, [11])), (1, (0, 2, [])), (2, (0, 3, []))], [], [(0, 1000, (8, 0, [])), (0, 1001, (8, 1, [])), (0, 1002, (8, 2, [])), (0, 1003, (8, 3, []))], [(0, 0), (1, 0), ((-2147483648), 2147483647), ((-2147483648), 2147483647)], [], 0, 0)
theorem h_X11_compare : ck_chk M_X11_compare (ck_kr (mF M_X11_compare) 4 1 C_X11_compare) K_X11_compare I_X11_compare 4 49 S_X11_compare = true := by decide +kernel
theorem o_X11_compare : ck_ok5 C_X11_compare = true := by decide +kernel
theorem a_X11_compare : ck_ca cw_V RX11 cX11_compare ⟨1, 0, 0, 22⟩ M_X11_compare := fun _ l _ _ _ _ _ _ _ _ _ _ _ _ X hts htl hsw hnq =>
  (List.forall_mem_cons.mpr ⟨ck_cs_V (t_X11_sentenceAt l) X hts htl hsw hnq ⟨rfl, rfl⟩ o_X11_sentenceAt cw_good (ck_m5 tw_518 tw_520 tw_8 tw_95 tw_521) (by decide) rfl rfl rfl he_X11_sentenceAt ⟨rfl, rfl⟩ ⟨by decide, by decide⟩, (List.forall_mem_cons.mpr ⟨ck_cs_V (t_X1_within l) X hts htl hsw hnq ⟨rfl, rfl⟩ o_X1_within cw_good (ck_m5 tw_559 tw_560 tw_561 tw_97 tw_562) (by decide) rfl rfl rfl he_X1_within ⟨rfl, rfl⟩ ⟨by decide, by decide⟩, (List.forall_mem_cons.mpr ⟨ck_cs_V (t_X1_apart l) X hts htl hsw hnq ⟨rfl, rfl⟩ o_X1_apart cw_good (ck_m5 tw_563 tw_564 tw_565 tw_97 tw_566) (by decide) rfl rfl rfl he_X1_apart ⟨rfl, rfl⟩ ⟨by decide, by decide⟩, (fun _ h => absurd h List.not_mem_nil)⟩)⟩)⟩)
theorem t_X11_compare (l : Launch) : ck_met cw_V l yX11_compare cX11_compare 7 (some .int) ⟨1, 0, 0, 22⟩ C_X11_compare :=
  ck_meth (M := M_X11_compare) (rt := 1) (pre := []) false pn_X11_compare rfl (fun h => by cases h) ⟨rfl, rfl, rfl, rfl, rfl⟩ ⟨rfl, rfl⟩ rfl (by decide) (by decide) (by decide) k_X11_compare (tb_X11 ⟨rfl, rfl, rfl, rfl, rfl, rfl, rfl, rfl, rfl⟩) a_X11_compare h_X11_compare rfl
theorem hd_X11_isSource : yX11_isSource.cls ≠ "java/lang/invoke/MethodHandle" ∧ yX11_isSource.cls ≠ "java/lang/invoke/VarHandle" ∧ (parseMethodDescriptor yX11_isSource.desc).map (fun d => d.parameters.length) = some 1 := ⟨by decide, by decide, by decide +kernel⟩
theorem he_X11_isSource : yX11_isSource.cls ≠ "java/lang/invoke/MethodHandle" ∧ yX11_isSource.cls ≠ "java/lang/invoke/VarHandle" ∧ (parseMethodDescriptor yX11_isSource.desc).map (fun d => d.parameters.length + 1) = some 2 := ⟨by decide, by decide, by decide +kernel⟩
theorem pn_X11_isSource : plainFor yX11_isSource = true := by decide +kernel
def K_X11_isSource : ck_cd := [(0, .iload_n 0, 1), (1, .ifCond .lt 13, 3), (4, .iload_n 0, 1), (5, .bipush 6, 2), (7, .if_icmp .ge 7, 3), (10, .iconst 1, 1), (11, .goto 4, 3), (14, .iconst 0, 1), (15, .ireturn, 1)]
theorem k_X11_isSource : ∀ x ∈ K_X11_isSource, decode cX11_isSource x.1 = .ok (x.2.1, x.2.2) := by decide +kernel
def C_X11_isSource : ck_C := (([(0, 1, [])], [], [(0, 0), ((-2147483648), 2147483647)], []), [([(0, 2, [])], [], [(1, 0), (1, 0), (1, 1)], [(1, 0, 5), (0, 1, 0)]), ([(0, 2, [])], [], [(1, 0), (1, 0), (0, 0)], [])], [], 0, 0)
def M_X11_isSource : ck_Me := (4, cw_TT, cw_SG, 1, fl_X11, pl_X11, nw_X11, kl_X11, il_X11, xl_X11, cw_al, [], [], (0, 0), gl_X11)
def I_X11_isSource : List (Nat × ck_I) := []
def S_X11_isSource : ck_S := ([(0, (0, 1, []))], [], [(0, 1000, (8, 0, [])), (0, 1001, (8, 1, []))], [(0, 0), ((-2147483648), 2147483647)], [], 0, 0)
theorem h_X11_isSource : ck_chk M_X11_isSource (ck_kr (mF M_X11_isSource) 2 2 C_X11_isSource) K_X11_isSource I_X11_isSource 2 14 S_X11_isSource = true := by decide +kernel
theorem o_X11_isSource : ck_ok5 C_X11_isSource = true := by decide +kernel
theorem a_X11_isSource : ck_ca cw_V RX11 cX11_isSource ⟨0, 0, 0, 0⟩ M_X11_isSource := fun _ _ _ _ _ _ _ _ _ _ _ _ _ _ _ _ _ _ _ _ h => absurd h List.not_mem_nil
theorem t_X11_isSource (l : Launch) : ck_met cw_V l yX11_isSource cX11_isSource 1 (some .boolean) ⟨0, 0, 0, 0⟩ C_X11_isSource :=
  ck_meth (M := M_X11_isSource) (rt := 2) (pre := []) false pn_X11_isSource rfl (fun h => by cases h) ⟨rfl, rfl, rfl, rfl, rfl⟩ ⟨rfl, rfl⟩ rfl (by decide) (by decide) (by decide) k_X11_isSource (tb_X11 ⟨rfl, rfl, rfl, rfl, rfl, rfl, rfl, rfl, rfl⟩) a_X11_isSource h_X11_isSource rfl
theorem hd_X11_trust : yX11_trust.cls ≠ "java/lang/invoke/MethodHandle" ∧ yX11_trust.cls ≠ "java/lang/invoke/VarHandle" ∧ (parseMethodDescriptor yX11_trust.desc).map (fun d => d.parameters.length) = some 2 := ⟨by decide, by decide, by decide +kernel⟩
theorem he_X11_trust : yX11_trust.cls ≠ "java/lang/invoke/MethodHandle" ∧ yX11_trust.cls ≠ "java/lang/invoke/VarHandle" ∧ (parseMethodDescriptor yX11_trust.desc).map (fun d => d.parameters.length + 1) = some 3 := ⟨by decide, by decide, by decide +kernel⟩
theorem pn_X11_trust : plainFor yX11_trust = true := by decide +kernel
def K_X11_trust : ck_cd := [(0, .iload_n 1, 1), (1, .invokestatic 162, 3), (4, .ifCond .ne 5, 3), (7, .iconst (-1), 1), (8, .ireturn, 1), (9, .iload_n 2, 1), (10, .iconst 1, 1), (11, .if_icmp .lt 9, 3), (14, .iload_n 2, 1), (15, .bipush 9, 2), (17, .if_icmp .le 6, 3), (20, .bipush (-2), 2), (22, .ireturn, 1), (23, .aload_n 0, 1), (24, .getfield 41, 3), (27, .getfield 165, 3), (30, .iload_n 1, 1), (31, .iaload, 1), (32, .istore_n 3, 1), (33, .aload_n 0, 1), (34, .getfield 41, 3), (37, .getfield 165, 3), (40, .iload_n 1, 1), (41, .iload_n 2, 1), (42, .iastore, 1), (43, .iload_n 3, 1), (44, .ireturn, 1)]
theorem k_X11_trust : ∀ x ∈ K_X11_trust, decode cX11_trust x.1 = .ok (x.2.1, x.2.2) := by decide +kernel
def C_X11_trust : ck_C := (([(2, 1, [11]), (0, 2, []), (0, 3, [])], [], [(0, 0), (1, 0), ((-2147483648), 2147483647), ((-2147483648), 2147483647)], []), [([(0, 4, [])], [], [(1, 0), (1, 0), (1, 0), (1, 0), ((-1), (-1))], []), ([(0, 4, [])], [], [(1, 0), (1, 0), (1, 0), (1, 0), ((-2), (-2))], [(2, 0, 5), (0, 2, 0)]), ([(0, 4, [])], [], [(1, 0), (1, 0), (1, 0), (1, 0), ((-2147483648), 2147483647)], [(2, 0, 5), (0, 2, 0), (3, 0, 9), (0, 3, (-1))])], [(27, 0)], 0, 0)
def M_X11_trust : ck_Me := (4, cw_TT, cw_SG, 4, fl_X11, pl_X11, nw_X11, kl_X11, il_X11, xl_X11, cw_al, [(3 * 162 + 1, 0, 1, C_X11_isSource)], [(27, 0)], (0, 0), gl_X11)
def I_X11_trust : List (Nat × ck_I) := []
def S_X11_trust : ck_S := ([(0, (2, 1, [11])), (1, (0, 2, [])), (2, (0, 3, []))], [], [(0, 1000, (8, 0, [])), (0, 1001, (8, 1, [])), (0, 1002, (8, 2, [])), (0, 1003, (8, 3, []))], [(0, 0), (1, 0), ((-2147483648), 2147483647), ((-2147483648), 2147483647)], [], 0, 0)
theorem h_X11_trust : ck_chk M_X11_trust (ck_kr (mF M_X11_trust) 4 1 C_X11_trust) K_X11_trust I_X11_trust 4 32 S_X11_trust = true := by decide +kernel
theorem o_X11_trust : ck_ok5 C_X11_trust = true := by decide +kernel
theorem a_X11_trust : ck_ca cw_V RX11 cX11_trust ⟨1, 0, 0, 20⟩ M_X11_trust := fun _ l _ _ _ _ _ _ _ _ _ _ _ _ X hts htl hsw hnq =>
  (List.forall_mem_cons.mpr ⟨ck_cs_S (t_X11_isSource l) X hts htl hsw hnq ⟨rfl, rfl⟩ o_X11_isSource cw_good (ck_m4 tw_571 tw_572 tw_95 tw_573) hd_X11_isSource ⟨rfl, rfl⟩ ⟨by decide, by decide⟩, (fun _ h => absurd h List.not_mem_nil)⟩)
theorem t_X11_trust (l : Launch) : ck_met cw_V l yX11_trust cX11_trust 4 (some .int) ⟨1, 0, 0, 20⟩ C_X11_trust :=
  ck_meth (M := M_X11_trust) (rt := 1) (pre := []) false pn_X11_trust rfl (fun h => by cases h) ⟨rfl, rfl, rfl, rfl, rfl⟩ ⟨rfl, rfl⟩ rfl (by decide) (by decide) (by decide) k_X11_trust (tb_X11 ⟨rfl, rfl, rfl, rfl, rfl, rfl, rfl, rfl, rfl⟩) a_X11_trust h_X11_trust rfl
theorem hd_X11_isTime : yX11_isTime.cls ≠ "java/lang/invoke/MethodHandle" ∧ yX11_isTime.cls ≠ "java/lang/invoke/VarHandle" ∧ (parseMethodDescriptor yX11_isTime.desc).map (fun d => d.parameters.length) = some 1 := ⟨by decide, by decide, by decide +kernel⟩
theorem he_X11_isTime : yX11_isTime.cls ≠ "java/lang/invoke/MethodHandle" ∧ yX11_isTime.cls ≠ "java/lang/invoke/VarHandle" ∧ (parseMethodDescriptor yX11_isTime.desc).map (fun d => d.parameters.length + 1) = some 2 := ⟨by decide, by decide, by decide +kernel⟩
theorem pn_X11_isTime : plainFor yX11_isTime = true := by decide +kernel
def K_X11_isTime : ck_cd := [(0, .iload_n 0, 1), (1, .ifCond .lt 13, 3), (4, .iload_n 0, 1), (5, .bipush 99, 2), (7, .if_icmp .gt 7, 3), (10, .iconst 1, 1), (11, .goto 4, 3), (14, .iconst 0, 1), (15, .ireturn, 1)]
theorem k_X11_isTime : ∀ x ∈ K_X11_isTime, decode cX11_isTime x.1 = .ok (x.2.1, x.2.2) := by decide +kernel
def C_X11_isTime : ck_C := (([(0, 1, [])], [], [(0, 0), ((-2147483648), 2147483647)], []), [([(0, 2, [])], [], [(1, 0), (1, 0), (1, 1)], [(1, 0, 99), (0, 1, 0)]), ([(0, 2, [])], [], [(1, 0), (1, 0), (0, 0)], [])], [], 0, 0)
def M_X11_isTime : ck_Me := (4, cw_TT, cw_SG, 1, fl_X11, pl_X11, nw_X11, kl_X11, il_X11, xl_X11, cw_al, [], [], (0, 0), gl_X11)
def I_X11_isTime : List (Nat × ck_I) := []
def S_X11_isTime : ck_S := ([(0, (0, 1, []))], [], [(0, 1000, (8, 0, [])), (0, 1001, (8, 1, []))], [(0, 0), ((-2147483648), 2147483647)], [], 0, 0)
theorem h_X11_isTime : ck_chk M_X11_isTime (ck_kr (mF M_X11_isTime) 2 2 C_X11_isTime) K_X11_isTime I_X11_isTime 2 14 S_X11_isTime = true := by decide +kernel
theorem o_X11_isTime : ck_ok5 C_X11_isTime = true := by decide +kernel
theorem a_X11_isTime : ck_ca cw_V RX11 cX11_isTime ⟨0, 0, 0, 0⟩ M_X11_isTime := fun _ _ _ _ _ _ _ _ _ _ _ _ _ _ _ _ _ _ _ _ h => absurd h List.not_mem_nil
theorem t_X11_isTime (l : Launch) : ck_met cw_V l yX11_isTime cX11_isTime 1 (some .boolean) ⟨0, 0, 0, 0⟩ C_X11_isTime :=
  ck_meth (M := M_X11_isTime) (rt := 2) (pre := []) false pn_X11_isTime rfl (fun h => by cases h) ⟨rfl, rfl, rfl, rfl, rfl⟩ ⟨rfl, rfl⟩ rfl (by decide) (by decide) (by decide) k_X11_isTime (tb_X11 ⟨rfl, rfl, rfl, rfl, rfl, rfl, rfl, rfl, rfl⟩) a_X11_isTime h_X11_isTime rfl
theorem hd_X2_isFull : yX2_isFull.cls ≠ "java/lang/invoke/MethodHandle" ∧ yX2_isFull.cls ≠ "java/lang/invoke/VarHandle" ∧ (parseMethodDescriptor yX2_isFull.desc).map (fun d => d.parameters.length) = some 0 := ⟨by decide, by decide, by decide +kernel⟩
theorem he_X2_isFull : yX2_isFull.cls ≠ "java/lang/invoke/MethodHandle" ∧ yX2_isFull.cls ≠ "java/lang/invoke/VarHandle" ∧ (parseMethodDescriptor yX2_isFull.desc).map (fun d => d.parameters.length + 1) = some 1 := ⟨by decide, by decide, by decide +kernel⟩
theorem pn_X2_isFull : plainFor yX2_isFull = true := by decide +kernel
def K_X2_isFull : ck_cd := [(0, .aload_n 0, 1), (1, .getfield 58, 3), (4, .aload_n 0, 1), (5, .getfield 21, 3), (8, .arraylength, 1), (9, .if_icmp .lt 7, 3), (12, .iconst 1, 1), (13, .goto 4, 3), (16, .iconst 0, 1), (17, .ireturn, 1)]
theorem k_X2_isFull : ∀ x ∈ K_X2_isFull, decode cX2_isFull x.1 = .ok (x.2.1, x.2.2) := by decide +kernel
def C_X2_isFull : ck_C := (([(2, 1, [13])], [], [(0, 0), (1, 0)], []), [([(0, 2, [])], [], [(1, 0), (1, 0), (1, 1)], []), ([(0, 2, [])], [], [(1, 0), (1, 0), (0, 0)], [])], [], 0, 0)
def M_X2_isFull : ck_Me := (4, cw_TT, cw_SG, 1, fl_X2, pl_X2, nw_X2, kl_X2, il_X2, xl_X2, cw_al, [], [], (0, 0), gl_X2)
def I_X2_isFull : List (Nat × ck_I) := []
def S_X2_isFull : ck_S := ([(0, (2, 1, [13]))], [], [(0, 1000, (8, 0, [])), (0, 1001, (8, 1, []))], [(0, 0), (1, 0)], [], 0, 0)
theorem h_X2_isFull : ck_chk M_X2_isFull (ck_kr (mF M_X2_isFull) 2 2 C_X2_isFull) K_X2_isFull I_X2_isFull 2 15 S_X2_isFull = true := by decide +kernel
theorem o_X2_isFull : ck_ok5 C_X2_isFull = true := by decide +kernel
theorem a_X2_isFull : ck_ca cw_V RX2 cX2_isFull ⟨0, 0, 0, 0⟩ M_X2_isFull := fun _ _ _ _ _ _ _ _ _ _ _ _ _ _ _ _ _ _ _ _ h => absurd h List.not_mem_nil
theorem t_X2_isFull (l : Launch) : ck_met cw_V l yX2_isFull cX2_isFull 1 (some .boolean) ⟨0, 0, 0, 0⟩ C_X2_isFull :=
  ck_meth (M := M_X2_isFull) (rt := 2) (pre := []) false pn_X2_isFull rfl (fun h => by cases h) ⟨rfl, rfl, rfl, rfl, rfl⟩ ⟨rfl, rfl⟩ rfl (by decide) (by decide) (by decide) k_X2_isFull (tb_X2 ⟨rfl, rfl, rfl, rfl, rfl, rfl, rfl, rfl, rfl⟩) a_X2_isFull h_X2_isFull rfl
theorem hd_X2_keep : yX2_keep.cls ≠ "java/lang/invoke/MethodHandle" ∧ yX2_keep.cls ≠ "java/lang/invoke/VarHandle" ∧ (parseMethodDescriptor yX2_keep.desc).map (fun d => d.parameters.length) = some 2 := ⟨by decide, by decide, by decide +kernel⟩
theorem he_X2_keep : yX2_keep.cls ≠ "java/lang/invoke/MethodHandle" ∧ yX2_keep.cls ≠ "java/lang/invoke/VarHandle" ∧ (parseMethodDescriptor yX2_keep.desc).map (fun d => d.parameters.length + 1) = some 3 := ⟨by decide, by decide, by decide +kernel⟩
theorem pn_X2_keep : plainFor yX2_keep = true := by decide +kernel
def K_X2_keep : ck_cd := [(0, .aload_n 0, 1), (1, .getfield 58, 3), (4, .aload_n 0, 1), (5, .getfield 21, 3), (8, .arraylength, 1), (9, .if_icmp .lt 6, 3), (12, .bipush (-4), 2), (14, .ireturn, 1), (15, .iconst 0, 1), (16, .istore_n 3, 1), (17, .iload_n 3, 1), (18, .sipush 256, 3), (21, .if_icmp .ge 32, 3), (24, .aload_n 2, 1), (25, .iload_n 3, 1), (26, .invokevirtual 61, 3), (29, .ifCond .eq 18, 3), (32, .aload_n 0, 1), (33, .getfield 25, 3), (36, .iload_n 3, 1), (37, .dup2, 1), (38, .iaload, 1), (39, .iconst 1, 1), (40, .aload_n 0, 1), (41, .getfield 58, 3), (44, .ishl, 1), (45, .ior, 1), (46, .iastore, 1), (47, .iinc 3 1, 3), (50, .goto (-33), 3), (53, .aload_n 0, 1), (54, .getfield 21, 3), (57, .aload_n 0, 1), (58, .getfield 58, 3), (61, .aload_n 1, 1), (62, .aastore, 1), (63, .aload_n 0, 1), (64, .dup, 1), (65, .getfield 58, 3), (68, .iconst 1, 1), (69, .iadd, 1), (70, .putfield 58, 3), (73, .aload_n 1, 1), (74, .getfield 65, 3), (77, .ireturn, 1)]
theorem k_X2_keep : ∀ x ∈ K_X2_keep, decode cX2_keep x.1 = .ok (x.2.1, x.2.2) := by decide +kernel
def C_X2_keep : ck_C := (([(2, 1, [13]), (2, 2, [7]), (2, 3, [1])], [], [(0, 0), (1, 0), (1, 0), (1, 0)], []), [([(0, 4, [])], [], [(1, 0), (1, 0), (1, 0), (1, 0), ((-4), (-4))], []), ([(0, 4, [])], [], [(1, 0), (1, 0), (1, 0), (1, 0), ((-2147483648), 2147483647)], [])], [(13, 1), (28, 0), (29, 0)], 0, 0)
def M_X2_keep : ck_Me := (4, cw_TT, cw_SG, 4, fl_X2, pl_X2, nw_X2, kl_X2, il_X2, xl_X2, cw_al, [(3 * 61, 1, 2, C_X1_has)], [(13, 1), (28, 0), (29, 0)], (0, 0), gl_X2)
def I_X2_keep : List (Nat × ck_I) := [(17, (([(0, (2, 1, [13])), (1, (2, 2, [7])), (2, (2, 3, [1])), (3, (0, 4, []))], [], [(13, 1, (0, 5, []))], [(0, 0), (1, 0), (1, 0), (1, 0), (0, 256), (0, 11)], [], 0, 0), [(1, 4, 257), (0, 0, 1152921504606846976), (0, 0, 1152921504606846976)]))]
def S_X2_keep : ck_S := ([(0, (2, 1, [13])), (1, (2, 2, [7])), (2, (2, 3, [1]))], [], [(0, 1000, (8, 0, [])), (0, 1001, (8, 1, [])), (0, 1002, (8, 2, [])), (0, 1003, (8, 3, []))], [(0, 0), (1, 0), (1, 0), (1, 0)], [], 0, 0)
theorem h_X2_keep : ck_chk M_X2_keep (ck_kr (mF M_X2_keep) 4 1 C_X2_keep) K_X2_keep I_X2_keep 4 50 S_X2_keep = true := by decide +kernel
theorem o_X2_keep : ck_ok5 C_X2_keep = true := by decide +kernel
theorem a_X2_keep : ck_ca cw_V RX2 cX2_keep ⟨1, 0, 0, 22⟩ M_X2_keep := fun _ l _ _ _ _ _ _ _ _ _ _ _ _ X hts htl hsw hnq =>
  (List.forall_mem_cons.mpr ⟨ck_cs_V (t_X1_has l) X hts htl hsw hnq ⟨rfl, rfl⟩ o_X1_has cw_good (ck_m5 tw_637 tw_552 tw_553 tw_97 tw_554) (by decide) rfl rfl rfl he_X1_has ⟨rfl, rfl⟩ ⟨by decide, by decide⟩, (fun _ h => absurd h List.not_mem_nil)⟩)
theorem t_X2_keep (l : Launch) : ck_met cw_V l yX2_keep cX2_keep 4 (some .int) ⟨1, 0, 0, 22⟩ C_X2_keep :=
  ck_meth (M := M_X2_keep) (rt := 1) (pre := []) false pn_X2_keep rfl (fun h => by cases h) ⟨rfl, rfl, rfl, rfl, rfl⟩ ⟨rfl, rfl⟩ rfl (by decide) (by decide) (by decide) k_X2_keep (tb_X2 ⟨rfl, rfl, rfl, rfl, rfl, rfl, rfl, rfl, rfl⟩) a_X2_keep h_X2_keep rfl
