/-! methods, 1 -/
theorem hd_X2_entryAt : yX2_entryAt.cls ≠ "java/lang/invoke/MethodHandle" ∧ yX2_entryAt.cls ≠ "java/lang/invoke/VarHandle" ∧ (parseMethodDescriptor yX2_entryAt.desc).map (fun d => d.parameters.length) = some 1 := ⟨by decide, by decide, by decide +kernel⟩
theorem he_X2_entryAt : yX2_entryAt.cls ≠ "java/lang/invoke/MethodHandle" ∧ yX2_entryAt.cls ≠ "java/lang/invoke/VarHandle" ∧ (parseMethodDescriptor yX2_entryAt.desc).map (fun d => d.parameters.length + 1) = some 2 := ⟨by decide, by decide, by decide +kernel⟩
theorem pn_X2_entryAt : plainFor yX2_entryAt = true := by decide +kernel
def K_X2_entryAt : ck_cd := [(0, .iload_n 1, 1), (1, .ifCond .lt 29, 3), (4, .iload_n 1, 1), (5, .aload_n 0, 1), (6, .getfield 58, 3), (9, .if_icmp .ge 21, 3), (12, .iload_n 1, 1), (13, .aload_n 0, 1), (14, .getfield 21, 3), (17, .arraylength, 1), (18, .if_icmp .ge 12, 3), (21, .aload_n 0, 1), (22, .getfield 21, 3), (25, .iload_n 1, 1), (26, .aaload, 1), (27, .goto 4, 3), (30, .aconst_null, 1), (31, .areturn, 1)]
theorem k_X2_entryAt : ∀ x ∈ K_X2_entryAt, decode cX2_entryAt x.1 = .ok (x.2.1, x.2.2) := by decide +kernel
def C_X2_entryAt : ck_C := (([(2, 1, [13]), (0, 2, [])], [], [(0, 0), (1, 0), ((-2147483648), 2147483647)], []), [([(3, 3, [7])], [], [(1, 0), (1, 0), (1, 0), (1, 0)], [(2, 0, 11), (0, 2, 0)]), ([(4, 3, [])], [], [(1, 0), (1, 0), (1, 0), (1, 0)], [])], [], 0, 0)
def M_X2_entryAt : ck_Me := (4, cw_TT, cw_SG, 2, fl_X2, pl_X2, nw_X2, kl_X2, il_X2, xl_X2, cw_al, [], [], (0, 0), gl_X2)
def I_X2_entryAt : List (Nat × ck_I) := []
def S_X2_entryAt : ck_S := ([(0, (2, 1, [13])), (1, (0, 2, []))], [], [(0, 1000, (8, 0, [])), (0, 1001, (8, 1, [])), (0, 1002, (8, 2, []))], [(0, 0), (1, 0), ((-2147483648), 2147483647)], [], 0, 0)
theorem h_X2_entryAt : ck_chk M_X2_entryAt (ck_kr (mF M_X2_entryAt) 3 4 C_X2_entryAt) K_X2_entryAt I_X2_entryAt 3 23 S_X2_entryAt = true := by decide +kernel
theorem o_X2_entryAt : ck_ok5 C_X2_entryAt = true := by decide +kernel
theorem a_X2_entryAt : ck_ca cw_V RX2 cX2_entryAt ⟨0, 0, 0, 0⟩ M_X2_entryAt := fun _ _ _ _ _ _ _ _ _ _ _ _ _ _ _ _ _ _ _ _ h => absurd h List.not_mem_nil
theorem t_X2_entryAt (l : Launch) : ck_met cw_V l yX2_entryAt cX2_entryAt 2 (some (.object "ReasonDesk$Entry")) ⟨0, 0, 0, 0⟩ C_X2_entryAt :=
  ck_meth (M := M_X2_entryAt) (rt := 4) (pre := []) false pn_X2_entryAt rfl (fun h => by cases h) ⟨rfl, rfl, rfl, rfl, rfl⟩ ⟨rfl, rfl⟩ ⟨_, rfl, Or.inl ⟨_, rfl⟩⟩ (by decide) (by decide) (by decide) k_X2_entryAt (tb_X2 ⟨rfl, rfl, rfl, rfl, rfl, rfl, rfl, rfl, rfl⟩) a_X2_entryAt h_X2_entryAt rfl
theorem hd_X2_inView : yX2_inView.cls ≠ "java/lang/invoke/MethodHandle" ∧ yX2_inView.cls ≠ "java/lang/invoke/VarHandle" ∧ (parseMethodDescriptor yX2_inView.desc).map (fun d => d.parameters.length) = some 0 := ⟨by decide, by decide, by decide +kernel⟩
theorem he_X2_inView : yX2_inView.cls ≠ "java/lang/invoke/MethodHandle" ∧ yX2_inView.cls ≠ "java/lang/invoke/VarHandle" ∧ (parseMethodDescriptor yX2_inView.desc).map (fun d => d.parameters.length + 1) = some 1 := ⟨by decide, by decide, by decide +kernel⟩
theorem pn_X2_inView : plainFor yX2_inView = true := by decide +kernel
def K_X2_inView : ck_cd := [(0, .iconst 0, 1), (1, .istore_n 1, 1), (2, .iconst 0, 1), (3, .istore_n 2, 1), (4, .iload_n 2, 1), (5, .aload_n 0, 1), (6, .getfield 58, 3), (9, .if_icmp .ge 81, 3), (12, .aload_n 0, 1), (13, .iload_n 2, 1), (14, .invokevirtual 68, 3), (17, .astore_n 3, 1), (18, .aload_n 3, 1), (19, .ifnull 65, 3), (22, .aload_n 3, 1), (23, .getfield 72, 3), (26, .aload_n 0, 1), (27, .getfield 75, 3), (30, .if_icmp .gt 54, 3), (33, .aload_n 3, 1), (34, .getfield 78, 3), (37, .aload_n 0, 1), (38, .getfield 75, 3), (41, .if_icmp .lt 43, 3), (44, .aload_n 3, 1), (45, .getfield 81, 3), (48, .aload_n 0, 1), (49, .getfield 15, 3), (52, .if_icmp .le 6, 3), (55, .goto 29, 3), (58, .aload_n 3, 1), (59, .getfield 84, 3), (62, .bipush (-9), 2), (64, .if_icmp .eq 14, 3), (67, .aload_n 3, 1), (68, .getfield 84, 3), (71, .aload_n 0, 1), (72, .getfield 15, 3), (75, .if_icmp .le 9, 3), (78, .iload_n 1, 1), (79, .iconst 1, 1), (80, .iload_n 2, 1), (81, .ishl, 1), (82, .ior, 1), (83, .istore_n 1, 1), (84, .iinc 2 1, 3), (87, .goto (-83), 3), (90, .iload_n 1, 1), (91, .ireturn, 1)]
theorem k_X2_inView : ∀ x ∈ K_X2_inView, decode cX2_inView x.1 = .ok (x.2.1, x.2.2) := by decide +kernel
def C_X2_inView : ck_C := (([(2, 1, [13])], [], [(0, 0), (1, 0)], []), [([(0, 2, [])], [], [(1, 0), (1, 0), (0, 4095)], [])], [], 0, 0)
def M_X2_inView : ck_Me := (4, cw_TT, cw_SG, 4, fl_X2, pl_X2, nw_X2, kl_X2, il_X2, xl_X2, cw_al, [(3 * 68, 13, 2, C_X2_entryAt)], [], (0, 0), gl_X2)
def I_X2_inView : List (Nat × ck_I) := [(4, (([(0, (2, 1, [13])), (1, (0, 2, [])), (2, (0, 3, []))], [], [], [(0, 0), (1, 0), (0, 4095), (0, 12)], [], 0, 0), [(1, 3, 13), (0, 0, 1152921504606846976), (0, 0, 1152921504606846976)]))]
def S_X2_inView : ck_S := ([(0, (2, 1, [13]))], [], [(0, 1000, (8, 0, [])), (0, 1001, (8, 1, []))], [(0, 0), (1, 0)], [], 0, 0)
theorem h_X2_inView : ck_chk M_X2_inView (ck_kr (mF M_X2_inView) 2 1 C_X2_inView) K_X2_inView I_X2_inView 2 54 S_X2_inView = true := by decide +kernel
theorem o_X2_inView : ck_ok5 C_X2_inView = true := by decide +kernel
theorem a_X2_inView : ck_ca cw_V RX2 cX2_inView ⟨1, 0, 0, 21⟩ M_X2_inView := fun _ l _ _ _ _ _ _ _ _ _ _ _ _ X hts htl hsw hnq =>
  (List.forall_mem_cons.mpr ⟨ck_cs_V (t_X2_entryAt l) X hts htl hsw hnq ⟨rfl, rfl⟩ o_X2_entryAt cw_good (ck_m5 tw_646 tw_647 tw_648 tw_99 tw_649) (by decide) rfl rfl rfl he_X2_entryAt ⟨rfl, rfl⟩ ⟨by decide, by decide⟩, (fun _ h => absurd h List.not_mem_nil)⟩)
theorem t_X2_inView (l : Launch) : ck_met cw_V l yX2_inView cX2_inView 4 (some .int) ⟨1, 0, 0, 21⟩ C_X2_inView :=
  ck_meth (M := M_X2_inView) (rt := 1) (pre := []) false pn_X2_inView rfl (fun h => by cases h) ⟨rfl, rfl, rfl, rfl, rfl⟩ ⟨rfl, rfl⟩ rfl (by decide) (by decide) (by decide) k_X2_inView (tb_X2 ⟨rfl, rfl, rfl, rfl, rfl, rfl, rfl, rfl, rfl⟩) a_X2_inView h_X2_inView rfl
theorem hd_J6_bitCount_0f7a4 : yJ6_bitCount_0f7a4.cls ≠ "java/lang/invoke/MethodHandle" ∧ yJ6_bitCount_0f7a4.cls ≠ "java/lang/invoke/VarHandle" ∧ (parseMethodDescriptor yJ6_bitCount_0f7a4.desc).map (fun d => d.parameters.length) = some 1 := ⟨by decide, by decide, by decide +kernel⟩
theorem he_J6_bitCount_0f7a4 : yJ6_bitCount_0f7a4.cls ≠ "java/lang/invoke/MethodHandle" ∧ yJ6_bitCount_0f7a4.cls ≠ "java/lang/invoke/VarHandle" ∧ (parseMethodDescriptor yJ6_bitCount_0f7a4.desc).map (fun d => d.parameters.length + 1) = some 2 := ⟨by decide, by decide, by decide +kernel⟩
theorem pn_J6_bitCount_0f7a4 : plainFor yJ6_bitCount_0f7a4 = true := by decide +kernel
def K_J6_bitCount_0f7a4 : ck_cd := [(0, .iload_n 0, 1), (1, .iload_n 0, 1), (2, .iconst 1, 1), (3, .iushr, 1), (4, .ldc_w 265, 3), (7, .iand, 1), (8, .isub, 1), (9, .istore_n 0, 1), (10, .iload_n 0, 1), (11, .ldc_w 266, 3), (14, .iand, 1), (15, .iload_n 0, 1), (16, .iconst 2, 1), (17, .iushr, 1), (18, .ldc_w 266, 3), (21, .iand, 1), (22, .iadd, 1), (23, .istore_n 0, 1), (24, .iload_n 0, 1), (25, .iload_n 0, 1), (26, .iconst 4, 1), (27, .iushr, 1), (28, .iadd, 1), (29, .ldc_w 267, 3), (32, .iand, 1), (33, .istore_n 0, 1), (34, .iload_n 0, 1), (35, .iload_n 0, 1), (36, .bipush 8, 2), (38, .iushr, 1), (39, .iadd, 1), (40, .istore_n 0, 1), (41, .iload_n 0, 1), (42, .iload_n 0, 1), (43, .bipush 16, 2), (45, .iushr, 1), (46, .iadd, 1), (47, .istore_n 0, 1), (48, .iload_n 0, 1), (49, .bipush 63, 2), (51, .iand, 1), (52, .ireturn, 1)]
theorem k_J6_bitCount_0f7a4 : ∀ x ∈ K_J6_bitCount_0f7a4, decode cJ6_bitCount_0f7a4 x.1 = .ok (x.2.1, x.2.2) := by decide +kernel
def C_J6_bitCount_0f7a4 : ck_C := (([(0, 1, [])], [], [(0, 0), ((-2147483648), 2147483647)], []), [([(0, 2, [])], [], [(1, 0), (1, 0), (0, 63)], [])], [], 0, 0)
def M_J6_bitCount_0f7a4 : ck_Me := (4, cw_TT, cw_SG, 1, fl_J6, pl_J6, nw_J6, kl_J6, il_J6, xl_J6, cw_al, [], [], (0, 0), gl_J6)
def I_J6_bitCount_0f7a4 : List (Nat × ck_I) := []
def S_J6_bitCount_0f7a4 : ck_S := ([(0, (0, 1, []))], [], [(0, 1000, (8, 0, [])), (0, 1001, (8, 1, []))], [(0, 0), ((-2147483648), 2147483647)], [], 0, 0)
theorem h_J6_bitCount_0f7a4 : ck_chk M_J6_bitCount_0f7a4 (ck_kr (mF M_J6_bitCount_0f7a4) 2 1 C_J6_bitCount_0f7a4) K_J6_bitCount_0f7a4 I_J6_bitCount_0f7a4 2 47 S_J6_bitCount_0f7a4 = true := by decide +kernel
theorem o_J6_bitCount_0f7a4 : ck_ok5 C_J6_bitCount_0f7a4 = true := by decide +kernel
theorem a_J6_bitCount_0f7a4 : ck_ca cw_V RJ6 cJ6_bitCount_0f7a4 ⟨0, 0, 0, 0⟩ M_J6_bitCount_0f7a4 := fun _ _ _ _ _ _ _ _ _ _ _ _ _ _ _ _ _ _ _ _ h => absurd h List.not_mem_nil
theorem t_J6_bitCount_0f7a4 (l : Launch) : ck_met cw_V l yJ6_bitCount_0f7a4 cJ6_bitCount_0f7a4 1 (some .int) ⟨0, 0, 0, 0⟩ C_J6_bitCount_0f7a4 :=
  ck_meth (M := M_J6_bitCount_0f7a4) (rt := 1) (pre := []) false pn_J6_bitCount_0f7a4 rfl (fun h => by cases h) ⟨rfl, rfl, rfl, rfl, rfl⟩ ⟨rfl, rfl⟩ rfl (by decide) (by decide) (by decide) k_J6_bitCount_0f7a4 (tb_J6 ⟨rfl, rfl, rfl, rfl, rfl, rfl, rfl, rfl, rfl⟩) a_J6_bitCount_0f7a4 h_J6_bitCount_0f7a4 rfl
theorem hd_X11_view : yX11_view.cls ≠ "java/lang/invoke/MethodHandle" ∧ yX11_view.cls ≠ "java/lang/invoke/VarHandle" ∧ (parseMethodDescriptor yX11_view.desc).map (fun d => d.parameters.length) = some 2 := ⟨by decide, by decide, by decide +kernel⟩
theorem he_X11_view : yX11_view.cls ≠ "java/lang/invoke/MethodHandle" ∧ yX11_view.cls ≠ "java/lang/invoke/VarHandle" ∧ (parseMethodDescriptor yX11_view.desc).map (fun d => d.parameters.length + 1) = some 3 := ⟨by decide, by decide, by decide +kernel⟩
theorem pn_X11_view : plainFor yX11_view = true := by decide +kernel
def K_X11_view : ck_cd := [(0, .iload_n 1, 1), (1, .invokestatic 168, 3), (4, .ifCond .eq 10, 3), (7, .iload_n 2, 1), (8, .invokestatic 168, 3), (11, .ifCond .ne 6, 3), (14, .bipush (-2), 2), (16, .ireturn, 1), (17, .aload_n 0, 1), (18, .getfield 41, 3), (21, .iload_n 1, 1), (22, .putfield 187, 3), (25, .aload_n 0, 1), (26, .getfield 41, 3), (29, .iload_n 2, 1), (30, .putfield 190, 3), (33, .aload_n 0, 1), (34, .getfield 41, 3), (37, .invokevirtual 193, 3), (40, .invokestatic 196, 3), (43, .ireturn, 1)]
theorem k_X11_view : ∀ x ∈ K_X11_view, decode cX11_view x.1 = .ok (x.2.1, x.2.2) := by decide +kernel
def C_X11_view : ck_C := (([(2, 1, [11]), (0, 2, []), (0, 3, [])], [], [(0, 0), (1, 0), ((-2147483648), 2147483647), ((-2147483648), 2147483647)], []), [([(0, 4, [])], [], [(1, 0), (1, 0), (1, 0), (1, 0), ((-2), (-2))], []), ([(0, 4, [])], [], [(1, 0), (1, 0), (1, 0), (1, 0), (0, 63)], [(2, 0, 99), (0, 2, 0), (3, 0, 99), (0, 3, 0)])], [(13, 2), (13, 3)], 0, 0)
def M_X11_view : ck_Me := (4, cw_TT, cw_SG, 3, fl_X11, pl_X11, nw_X11, kl_X11, il_X11, xl_X11, cw_al, [(3 * 168 + 1, 0, 1, C_X11_isTime), (3 * 193, 13, 1, C_X2_inView), (3 * 196 + 1, 0, 1, C_J6_bitCount_0f7a4)], [(13, 2), (13, 3)], (0, 0), gl_X11)
def I_X11_view : List (Nat × ck_I) := []
def S_X11_view : ck_S := ([(0, (2, 1, [11])), (1, (0, 2, [])), (2, (0, 3, []))], [], [(0, 1000, (8, 0, [])), (0, 1001, (8, 1, [])), (0, 1002, (8, 2, [])), (0, 1003, (8, 3, []))], [(0, 0), (1, 0), ((-2147483648), 2147483647), ((-2147483648), 2147483647)], [], 0, 0)
theorem h_X11_view : ck_chk M_X11_view (ck_kr (mF M_X11_view) 4 1 C_X11_view) K_X11_view I_X11_view 4 26 S_X11_view = true := by decide +kernel
theorem o_X11_view : ck_ok5 C_X11_view = true := by decide +kernel
theorem a_X11_view : ck_ca cw_V RX11 cX11_view ⟨2, 0, 0, 44⟩ M_X11_view := fun _ l _ _ _ _ _ _ _ _ _ _ _ _ X hts htl hsw hnq =>
  (List.forall_mem_cons.mpr ⟨ck_cs_S (t_X11_isTime l) X hts htl hsw hnq ⟨rfl, rfl⟩ o_X11_isTime cw_good (ck_m4 tw_578 tw_579 tw_95 tw_580) hd_X11_isTime ⟨rfl, rfl⟩ ⟨by decide, by decide⟩, (List.forall_mem_cons.mpr ⟨ck_cs_V (t_X2_inView l) X hts htl hsw hnq ⟨rfl, rfl⟩ o_X2_inView cw_good (ck_m5 tw_642 tw_643 tw_644 tw_99 tw_645) (by decide) rfl rfl rfl he_X2_inView ⟨rfl, rfl⟩ ⟨by decide, by decide⟩, (List.forall_mem_cons.mpr ⟨ck_cs_S (t_J6_bitCount_0f7a4 l) X hts htl hsw hnq ⟨rfl, rfl⟩ o_J6_bitCount_0f7a4 cw_good (ck_m4 tw_650 tw_651 tw_109 tw_652) hd_J6_bitCount_0f7a4 ⟨rfl, rfl⟩ ⟨by decide, by decide⟩, (fun _ h => absurd h List.not_mem_nil)⟩)⟩)⟩)
theorem t_X11_view (l : Launch) : ck_met cw_V l yX11_view cX11_view 3 (some .int) ⟨2, 0, 0, 44⟩ C_X11_view :=
  ck_meth (M := M_X11_view) (rt := 1) (pre := []) false pn_X11_view rfl (fun h => by cases h) ⟨rfl, rfl, rfl, rfl, rfl⟩ ⟨rfl, rfl⟩ rfl (by decide) (by decide) (by decide) k_X11_view (tb_X11 ⟨rfl, rfl, rfl, rfl, rfl, rfl, rfl, rfl, rfl⟩) a_X11_view h_X11_view rfl
def C_J7_fill_d0a16_v2 : ck_C := (([(2, 1, [6]), (1, 2, [])], [], [(0, 0), (1, 0), ((-9223372036854775808), 9223372036854775807)], []), [([], [], [(1, 0), (1, 0), (1, 0)], [])], [(6, 0)], 0, 0)
def M_J7_fill_d0a16_v2 : ck_Me := (4, cw_TT, cw_SG, 5, fl_J7, pl_J7, nw_J7, kl_J7, il_J7, xl_J7, cw_al, [], [(6, 0)], (0, 0), gl_J7)
def I_J7_fill_d0a16_v2 : List (Nat × ck_I) := [(6, (([(0, (2, 1, [6])), (1, (1, 2, [])), (3, (0, 3, [])), (4, (0, 4, []))], [], [], [(0, 0), (1, 0), ((-9223372036854775808), 9223372036854775807), (0, 64), (64, 64)], [], 0, 0), [(1, 3, 65), (0, 0, 1152921504606846976), (0, 0, 1152921504606846976)]))]
def S_J7_fill_d0a16_v2 : ck_S := ([(0, (2, 1, [6])), (1, (1, 2, []))], [], [(0, 1000, (8, 0, [])), (0, 1001, (8, 1, [])), (0, 1002, (8, 2, []))], [(0, 0), (1, 0), ((-9223372036854775808), 9223372036854775807)], [], 0, 0)
theorem h_J7_fill_d0a16_v2 : ck_chk M_J7_fill_d0a16_v2 (ck_kr (mF M_J7_fill_d0a16_v2) 3 0 C_J7_fill_d0a16_v2) K_J7_fill_d0a16 I_J7_fill_d0a16_v2 3 20 S_J7_fill_d0a16_v2 = true := by decide +kernel
theorem o_J7_fill_d0a16_v2 : ck_ok5 C_J7_fill_d0a16_v2 = true := by decide +kernel
theorem a_J7_fill_d0a16_v2 : ck_ca cw_V RJ7 cJ7_fill_d0a16 ⟨0, 0, 0, 0⟩ M_J7_fill_d0a16_v2 := fun _ _ _ _ _ _ _ _ _ _ _ _ _ _ _ _ _ _ _ _ h => absurd h List.not_mem_nil
theorem t_J7_fill_d0a16_v2 (l : Launch) : ck_met cw_V l yJ7_fill_d0a16 cJ7_fill_d0a16 5 none ⟨0, 0, 0, 0⟩ C_J7_fill_d0a16_v2 :=
  ck_meth (M := M_J7_fill_d0a16_v2) (rt := 0) (pre := []) false pn_J7_fill_d0a16 rfl (fun h => by cases h) ⟨rfl, rfl, rfl, rfl, rfl⟩ ⟨rfl, rfl⟩ rfl (by decide) (by decide) (by decide) k_J7_fill_d0a16 (tb_J7 ⟨rfl, rfl, rfl, rfl, rfl, rfl, rfl, rfl, rfl⟩) a_J7_fill_d0a16_v2 h_J7_fill_d0a16_v2 rfl
def C_X1_clear_v2 : ck_C := (([(2, 1, [5])], [], [(0, 0), (1, 0)], []), [([], [], [(1, 0), (1, 0)], [])], [(6, 0)], 0, 0)
def M_X1_clear_v2 : ck_Me := (4, cw_TT, cw_SG, 1, fl_X1, pl_X1, nw_X1, kl_X1, il_X1, xl_X1, cw_al, [(3 * 19 + 1, 0, 2, C_J7_fill_d0a16_v2)], [(6, 0)], (0, 0), gl_X1)
def I_X1_clear_v2 : List (Nat × ck_I) := []
def S_X1_clear_v2 : ck_S := ([(0, (2, 1, [5]))], [], [(0, 1000, (8, 0, [])), (0, 1001, (8, 1, []))], [(0, 0), (1, 0)], [], 0, 0)
theorem h_X1_clear_v2 : ck_chk M_X1_clear_v2 (ck_kr (mF M_X1_clear_v2) 2 0 C_X1_clear_v2) K_X1_clear I_X1_clear_v2 2 10 S_X1_clear_v2 = true := by decide +kernel
theorem o_X1_clear_v2 : ck_ok5 C_X1_clear_v2 = true := by decide +kernel
theorem a_X1_clear_v2 : ck_ca cw_V RX1 cX1_clear ⟨1, 0, 0, 24⟩ M_X1_clear_v2 := fun _ l _ _ _ _ _ _ _ _ _ _ _ _ X hts htl hsw hnq =>
  (List.forall_mem_cons.mpr ⟨ck_cs_S (t_J7_fill_d0a16_v2 l) X hts htl hsw hnq ⟨rfl, rfl⟩ o_J7_fill_d0a16_v2 cw_good (ck_m4 tw_482 tw_483 tw_100 tw_484) hd_J7_fill_d0a16 ⟨rfl, rfl⟩ ⟨by decide, by decide⟩, (fun _ h => absurd h List.not_mem_nil)⟩)
theorem t_X1_clear_v2 (l : Launch) : ck_met cw_V l yX1_clear cX1_clear 1 none ⟨1, 0, 0, 24⟩ C_X1_clear_v2 :=
  ck_meth (M := M_X1_clear_v2) (rt := 0) (pre := []) false pn_X1_clear rfl (fun h => by cases h) ⟨rfl, rfl, rfl, rfl, rfl⟩ ⟨rfl, rfl⟩ rfl (by decide) (by decide) (by decide) k_X1_clear (tb_X1 ⟨rfl, rfl, rfl, rfl, rfl, rfl, rfl, rfl, rfl⟩) a_X1_clear_v2 h_X1_clear_v2 rfl
theorem hd_X1_add : yX1_add.cls ≠ "java/lang/invoke/MethodHandle" ∧ yX1_add.cls ≠ "java/lang/invoke/VarHandle" ∧ (parseMethodDescriptor yX1_add.desc).map (fun d => d.parameters.length) = some 1 := ⟨by decide, by decide, by decide +kernel⟩
theorem he_X1_add : yX1_add.cls ≠ "java/lang/invoke/MethodHandle" ∧ yX1_add.cls ≠ "java/lang/invoke/VarHandle" ∧ (parseMethodDescriptor yX1_add.desc).map (fun d => d.parameters.length + 1) = some 2 := ⟨by decide, by decide, by decide +kernel⟩
theorem pn_X1_add : plainFor yX1_add = true := by decide +kernel
def K_X1_add : ck_cd := [(0, .iload_n 1, 1), (1, .bipush 6, 2), (3, .ishr, 1), (4, .istore_n 2, 1), (5, .iload_n 2, 1), (6, .ifCond .lt 27, 3), (9, .iload_n 2, 1), (10, .aload_n 0, 1), (11, .getfield 13, 3), (14, .arraylength, 1), (15, .if_icmp .ge 18, 3), (18, .aload_n 0, 1), (19, .getfield 13, 3), (22, .iload_n 2, 1), (23, .dup2, 1), (24, .laload, 1), (25, .lconst 1, 1), (26, .iload_n 1, 1), (27, .bipush 63, 2), (29, .iand, 1), (30, .lshl, 1), (31, .lor, 1), (32, .lastore, 1), (33, .return_, 1)]
theorem k_X1_add : ∀ x ∈ K_X1_add, decode cX1_add x.1 = .ok (x.2.1, x.2.2) := by decide +kernel
def C_X1_add : ck_C := (([(2, 1, [5]), (0, 2, [])], [], [(0, 0), (1, 0), ((-2147483648), 2147483647)], []), [([], [], [(1, 0), (1, 0), (1, 0)], [])], [(6, 0)], 0, 0)
def M_X1_add : ck_Me := (4, cw_TT, cw_SG, 3, fl_X1, pl_X1, nw_X1, kl_X1, il_X1, xl_X1, cw_al, [], [(6, 0)], (0, 0), gl_X1)
def I_X1_add : List (Nat × ck_I) := []
def S_X1_add : ck_S := ([(0, (2, 1, [5])), (1, (0, 2, []))], [], [(0, 1000, (8, 0, [])), (0, 1001, (8, 1, [])), (0, 1002, (8, 2, []))], [(0, 0), (1, 0), ((-2147483648), 2147483647)], [], 0, 0)
theorem h_X1_add : ck_chk M_X1_add (ck_kr (mF M_X1_add) 3 0 C_X1_add) K_X1_add I_X1_add 3 29 S_X1_add = true := by decide +kernel
theorem o_X1_add : ck_ok5 C_X1_add = true := by decide +kernel
theorem a_X1_add : ck_ca cw_V RX1 cX1_add ⟨0, 0, 0, 0⟩ M_X1_add := fun _ _ _ _ _ _ _ _ _ _ _ _ _ _ _ _ _ _ _ _ h => absurd h List.not_mem_nil
theorem t_X1_add (l : Launch) : ck_met cw_V l yX1_add cX1_add 3 none ⟨0, 0, 0, 0⟩ C_X1_add :=
  ck_meth (M := M_X1_add) (rt := 0) (pre := []) false pn_X1_add rfl (fun h => by cases h) ⟨rfl, rfl, rfl, rfl, rfl⟩ ⟨rfl, rfl⟩ rfl (by decide) (by decide) (by decide) k_X1_add (tb_X1 ⟨rfl, rfl, rfl, rfl, rfl, rfl, rfl, rfl, rfl⟩) a_X1_add h_X1_add rfl
theorem hd_X2_collect : yX2_collect.cls ≠ "java/lang/invoke/MethodHandle" ∧ yX2_collect.cls ≠ "java/lang/invoke/VarHandle" ∧ (parseMethodDescriptor yX2_collect.desc).map (fun d => d.parameters.length) = some 3 := ⟨by decide, by decide, by decide +kernel⟩
theorem he_X2_collect : yX2_collect.cls ≠ "java/lang/invoke/MethodHandle" ∧ yX2_collect.cls ≠ "java/lang/invoke/VarHandle" ∧ (parseMethodDescriptor yX2_collect.desc).map (fun d => d.parameters.length + 1) = some 4 := ⟨by decide, by decide, by decide +kernel⟩
theorem pn_X2_collect : plainFor yX2_collect = true := by decide +kernel
def K_X2_collect : ck_cd := [(0, .aload_n 0, 1), (1, .getfield 37, 3), (4, .invokevirtual 93, 3), (7, .iconst 0, 1), (8, .istore 4, 2), (10, .iload 4, 2), (12, .sipush 256, 3), (15, .if_icmp .ge 36, 3), (18, .aload_n 1, 1), (19, .iload 4, 2), (21, .invokevirtual 61, 3), (24, .ifCond .ne 21, 3), (27, .aload_n 0, 1), (28, .getfield 37, 3), (31, .aload_n 0, 1), (32, .getfield 25, 3), (35, .iload 4, 2), (37, .iaload, 1), (38, .iload_n 2, 1), (39, .iand, 1), (40, .iload_n 3, 1), (41, .ixor, 1), (42, .invokevirtual 96, 3), (45, .iinc 4 1, 3), (48, .goto (-38), 3), (51, .return_, 1)]
theorem k_X2_collect : ∀ x ∈ K_X2_collect, decode cX2_collect x.1 = .ok (x.2.1, x.2.2) := by decide +kernel
def C_X2_collect : ck_C := (([(2, 1, [13]), (2, 2, [1]), (0, 3, []), (0, 4, [])], [], [(0, 0), (1, 0), (1, 0), (0, 4095), (0, 4095)], []), [([], [], [(1, 0), (1, 0), (1, 0), (1, 0), (1, 0)], [])], [(6, 0)], 0, 0)
def M_X2_collect : ck_Me := (4, cw_TT, cw_SG, 5, fl_X2, pl_X2, nw_X2, kl_X2, il_X2, xl_X2, cw_al, [(3 * 61, 1, 2, C_X1_has), (3 * 93, 5, 1, C_X1_clear_v2), (3 * 96, 5, 2, C_X1_add)], [(6, 0)], (0, 0), gl_X2)
def I_X2_collect : List (Nat × ck_I) := [(10, (([(0, (2, 1, [13])), (1, (2, 2, [1])), (2, (0, 3, [])), (3, (0, 4, [])), (4, (0, 5, []))], [], [], [(0, 0), (1, 0), (1, 0), (0, 4095), (0, 4095), (0, 256)], [], 0, 0), [(1, 5, 257), (0, 0, 1152921504606846976), (0, 0, 1152921504606846976)]))]
def S_X2_collect : ck_S := ([(0, (2, 1, [13])), (1, (2, 2, [1])), (2, (0, 3, [])), (3, (0, 4, []))], [], [(0, 1000, (8, 0, [])), (0, 1001, (8, 1, [])), (0, 1002, (8, 2, [])), (0, 1003, (8, 3, [])), (0, 1004, (8, 4, []))], [(0, 0), (1, 0), (1, 0), (0, 4095), (0, 4095)], [], 0, 0)
theorem h_X2_collect : ck_chk M_X2_collect (ck_kr (mF M_X2_collect) 5 0 C_X2_collect) K_X2_collect I_X2_collect 5 31 S_X2_collect = true := by decide +kernel
theorem o_X2_collect : ck_ok5 C_X2_collect = true := by decide +kernel
theorem a_X2_collect : ck_ca cw_V RX2 cX2_collect ⟨2, 0, 0, 44⟩ M_X2_collect := fun _ l _ _ _ _ _ _ _ _ _ _ _ _ X hts htl hsw hnq =>
  (List.forall_mem_cons.mpr ⟨ck_cs_V (t_X1_has l) X hts htl hsw hnq ⟨rfl, rfl⟩ o_X1_has cw_good (ck_m5 tw_637 tw_552 tw_553 tw_97 tw_554) (by decide) rfl rfl rfl he_X1_has ⟨rfl, rfl⟩ ⟨by decide, by decide⟩, (List.forall_mem_cons.mpr ⟨ck_cs_V (t_X1_clear_v2 l) X hts htl hsw hnq ⟨rfl, rfl⟩ o_X1_clear_v2 cw_good (ck_m5 tw_674 tw_486 tw_487 tw_97 tw_488) (by decide) rfl rfl rfl he_X1_clear ⟨rfl, rfl⟩ ⟨by decide, by decide⟩, (List.forall_mem_cons.mpr ⟨ck_cs_V (t_X1_add l) X hts htl hsw hnq ⟨rfl, rfl⟩ o_X1_add cw_good (ck_m5 tw_675 tw_676 tw_677 tw_97 tw_678) (by decide) rfl rfl rfl he_X1_add ⟨rfl, rfl⟩ ⟨by decide, by decide⟩, (fun _ h => absurd h List.not_mem_nil)⟩)⟩)⟩)
theorem t_X2_collect (l : Launch) : ck_met cw_V l yX2_collect cX2_collect 5 none ⟨2, 0, 0, 44⟩ C_X2_collect :=
  ck_meth (M := M_X2_collect) (rt := 0) (pre := []) false pn_X2_collect rfl (fun h => by cases h) ⟨rfl, rfl, rfl, rfl, rfl⟩ ⟨rfl, rfl⟩ rfl (by decide) (by decide) (by decide) k_X2_collect (tb_X2 ⟨rfl, rfl, rfl, rfl, rfl, rfl, rfl, rfl, rfl⟩) a_X2_collect h_X2_collect rfl
theorem hd_X1_lowered : yX1_lowered.cls ≠ "java/lang/invoke/MethodHandle" ∧ yX1_lowered.cls ≠ "java/lang/invoke/VarHandle" ∧ (parseMethodDescriptor yX1_lowered.desc).map (fun d => d.parameters.length) = some 2 := ⟨by decide, by decide, by decide +kernel⟩
theorem he_X1_lowered : yX1_lowered.cls ≠ "java/lang/invoke/MethodHandle" ∧ yX1_lowered.cls ≠ "java/lang/invoke/VarHandle" ∧ (parseMethodDescriptor yX1_lowered.desc).map (fun d => d.parameters.length + 1) = some 3 := ⟨by decide, by decide, by decide +kernel⟩
theorem pn_X1_lowered : plainFor yX1_lowered = true := by decide +kernel
def K_X1_lowered : ck_cd := [(0, .iload_n 1, 1), (1, .ifCond .lt 28, 3), (4, .iload_n 1, 1), (5, .getstatic 27, 3), (8, .arraylength, 1), (9, .if_icmp .ge 20, 3), (12, .aload_n 0, 1), (13, .getfield 13, 3), (16, .iload_n 2, 1), (17, .laload, 1), (18, .getstatic 27, 3), (21, .iload_n 1, 1), (22, .laload, 1), (23, .land, 1), (24, .iconst 1, 1), (25, .iload_n 1, 1), (26, .ishl, 1), (27, .lushr, 1), (28, .lreturn, 1), (29, .iload_n 2, 1), (30, .iconst 1, 1), (31, .iload_n 1, 1), (32, .bipush 6, 2), (34, .isub, 1), (35, .ishl, 1), (36, .iadd, 1), (37, .istore_n 3, 1), (38, .iload_n 2, 1), (39, .iload_n 1, 1), (40, .bipush 6, 2), (42, .isub, 1), (43, .ishr, 1), (44, .iconst 1, 1), (45, .iand, 1), (46, .ifCond .ne 21, 3), (49, .iload_n 3, 1), (50, .aload_n 0, 1), (51, .getfield 13, 3), (54, .arraylength, 1), (55, .if_icmp .ge 12, 3), (58, .aload_n 0, 1), (59, .getfield 13, 3), (62, .iload_n 3, 1), (63, .laload, 1), (64, .goto 4, 3), (67, .lconst 0, 1), (68, .lreturn, 1)]
theorem k_X1_lowered : ∀ x ∈ K_X1_lowered, decode cX1_lowered x.1 = .ok (x.2.1, x.2.2) := by decide +kernel
def C_X1_lowered : ck_C := (([(2, 1, [5]), (0, 2, []), (0, 3, [])], [], [(0, 0), (1, 0), (0, 11), (0, 63)], []), [([(1, 4, [])], [], [(1, 0), (1, 0), (1, 0), (1, 0), ((-9223372036854775808), 9223372036854775807)], []), ([(1, 4, [])], [], [(1, 0), (1, 0), (1, 0), (1, 0), (0, 0)], [(0, 2, (-6))])], [], 0, 0)
def M_X1_lowered : ck_Me := (4, cw_TT, cw_SG, 4, fl_X1, pl_X1, nw_X1, kl_X1, il_X1, xl_X1, cw_al, [], [], (0, 0), gl_X1)
def I_X1_lowered : List (Nat × ck_I) := []
def S_X1_lowered : ck_S := ([(0, (2, 1, [5])), (1, (0, 2, [])), (2, (0, 3, []))], [], [(0, 1000, (8, 0, [])), (0, 1001, (8, 1, [])), (0, 1002, (8, 2, [])), (0, 1003, (8, 3, []))], [(0, 0), (1, 0), (0, 11), (0, 63)], [], 0, 0)
theorem h_X1_lowered : ck_chk M_X1_lowered (ck_kr (mF M_X1_lowered) 4 3 C_X1_lowered) K_X1_lowered I_X1_lowered 4 52 S_X1_lowered = true := by decide +kernel
theorem o_X1_lowered : ck_ok5 C_X1_lowered = true := by decide +kernel
theorem a_X1_lowered : ck_ca cw_V RX1 cX1_lowered ⟨0, 0, 0, 0⟩ M_X1_lowered := fun _ _ _ _ _ _ _ _ _ _ _ _ _ _ _ _ _ _ _ _ h => absurd h List.not_mem_nil
theorem t_X1_lowered (l : Launch) : ck_met cw_V l yX1_lowered cX1_lowered 4 (some .long) ⟨0, 0, 0, 0⟩ C_X1_lowered :=
  ck_meth (M := M_X1_lowered) (rt := 3) (pre := []) false pn_X1_lowered rfl (fun h => by cases h) ⟨rfl, rfl, rfl, rfl, rfl⟩ ⟨rfl, rfl⟩ rfl (by decide) (by decide) (by decide) k_X1_lowered (tb_X1 ⟨rfl, rfl, rfl, rfl, rfl, rfl, rfl, rfl, rfl⟩) a_X1_lowered h_X1_lowered rfl
theorem hd_X1_closeDown : yX1_closeDown.cls ≠ "java/lang/invoke/MethodHandle" ∧ yX1_closeDown.cls ≠ "java/lang/invoke/VarHandle" ∧ (parseMethodDescriptor yX1_closeDown.desc).map (fun d => d.parameters.length) = some 1 := ⟨by decide, by decide, by decide +kernel⟩
theorem he_X1_closeDown : yX1_closeDown.cls ≠ "java/lang/invoke/MethodHandle" ∧ yX1_closeDown.cls ≠ "java/lang/invoke/VarHandle" ∧ (parseMethodDescriptor yX1_closeDown.desc).map (fun d => d.parameters.length + 1) = some 2 := ⟨by decide, by decide, by decide +kernel⟩
theorem pn_X1_closeDown : plainFor yX1_closeDown = true := by decide +kernel
def K_X1_closeDown : ck_cd := [(0, .iconst 0, 1), (1, .istore_n 2, 1), (2, .iload_n 2, 1), (3, .iload_n 1, 1), (4, .if_icmp .ge 41, 3), (7, .iconst 0, 1), (8, .istore_n 3, 1), (9, .iload_n 3, 1), (10, .aload_n 0, 1), (11, .getfield 13, 3), (14, .arraylength, 1), (15, .if_icmp .ge 24, 3), (18, .aload_n 0, 1), (19, .getfield 13, 3), (22, .iload_n 3, 1), (23, .dup2, 1), (24, .laload, 1), (25, .aload_n 0, 1), (26, .iload_n 2, 1), (27, .iload_n 3, 1), (28, .invokevirtual 55, 3), (31, .lor, 1), (32, .lastore, 1), (33, .iinc 3 1, 3), (36, .goto (-27), 3), (39, .iinc 2 1, 3), (42, .goto (-40), 3), (45, .return_, 1)]
theorem k_X1_closeDown : ∀ x ∈ K_X1_closeDown, decode cX1_closeDown x.1 = .ok (x.2.1, x.2.2) := by decide +kernel
def C_X1_closeDown : ck_C := (([(2, 1, [5]), (0, 2, [])], [], [(0, 0), (1, 0), (12, 12)], []), [([], [], [(1, 0), (1, 0), (1, 0)], [])], [(6, 0)], 0, 0)
def M_X1_closeDown : ck_Me := (4, cw_TT, cw_SG, 4, fl_X1, pl_X1, nw_X1, kl_X1, il_X1, xl_X1, cw_al, [(3 * 55, 5, 3, C_X1_lowered)], [(6, 0)], (0, 0), gl_X1)
def I_X1_closeDown : List (Nat × ck_I) := [(2, (([(0, (2, 1, [5])), (1, (0, 2, [])), (2, (0, 3, []))], [], [], [(0, 0), (1, 0), (12, 12), (0, 12)], [], 0, 0), [(1, 3, 13), (0, 0, 1152921504606846976), (0, 0, 1152921504606846976)])),
  (9, (([(0, (2, 1, [5])), (1, (0, 2, [])), (2, (0, 3, [])), (3, (0, 4, []))], [], [], [(0, 0), (1, 0), (12, 12), (0, 11), (0, 64)], [], 0, 0), [(1, 3, 13), (1, 4, 65), (0, 0, 1152921504606846976)]))]
def S_X1_closeDown : ck_S := ([(0, (2, 1, [5])), (1, (0, 2, []))], [], [(0, 1000, (8, 0, [])), (0, 1001, (8, 1, [])), (0, 1002, (8, 2, []))], [(0, 0), (1, 0), (12, 12)], [], 0, 0)
theorem h_X1_closeDown : ck_chk M_X1_closeDown (ck_kr (mF M_X1_closeDown) 3 0 C_X1_closeDown) K_X1_closeDown I_X1_closeDown 3 33 S_X1_closeDown = true := by decide +kernel
theorem o_X1_closeDown : ck_ok5 C_X1_closeDown = true := by decide +kernel
theorem a_X1_closeDown : ck_ca cw_V RX1 cX1_closeDown ⟨1, 0, 0, 23⟩ M_X1_closeDown := fun _ l _ _ _ _ _ _ _ _ _ _ _ _ X hts htl hsw hnq =>
  (List.forall_mem_cons.mpr ⟨ck_cs_V (t_X1_lowered l) X hts htl hsw hnq ⟨rfl, rfl⟩ o_X1_lowered cw_good (ck_m5 tw_683 tw_685 tw_10 tw_97 tw_686) (by decide) rfl rfl rfl he_X1_lowered ⟨rfl, rfl⟩ ⟨by decide, by decide⟩, (fun _ h => absurd h List.not_mem_nil)⟩)
theorem t_X1_closeDown (l : Launch) : ck_met cw_V l yX1_closeDown cX1_closeDown 4 none ⟨1, 0, 0, 23⟩ C_X1_closeDown :=
  ck_meth (M := M_X1_closeDown) (rt := 0) (pre := []) false pn_X1_closeDown rfl (fun h => by cases h) ⟨rfl, rfl, rfl, rfl, rfl⟩ ⟨rfl, rfl⟩ rfl (by decide) (by decide) (by decide) k_X1_closeDown (tb_X1 ⟨rfl, rfl, rfl, rfl, rfl, rfl, rfl, rfl, rfl⟩) a_X1_closeDown h_X1_closeDown rfl
def C_X1_size_v2 : ck_C := (([(2, 1, [5])], [], [(0, 0), (1, 0)], []), [([(0, 2, [])], [], [(1, 0), (1, 0), ((-2147483648), 2147483647)], [])], [], 0, 0)
def M_X1_size_v2 : ck_Me := (4, cw_TT, cw_SG, 3, fl_X1, pl_X1, nw_X1, kl_X1, il_X1, xl_X1, cw_al, [(3 * 46 + 1, 0, 1, C_J13_bitCount_95d88)], [], (0, 0), gl_X1)
def I_X1_size_v2 : List (Nat × ck_I) := [(4, (([(0, (2, 1, [5])), (1, (0, 2, [])), (2, (0, 3, []))], [], [], [(0, 0), (1, 0), ((-2147483648), 2147483647), (0, 64)], [], 0, 0), [(1, 3, 65), (0, 0, 1152921504606846976), (0, 0, 1152921504606846976)]))]
def S_X1_size_v2 : ck_S := ([(0, (2, 1, [5]))], [], [(0, 1000, (8, 0, [])), (0, 1001, (8, 1, []))], [(0, 0), (1, 0)], [], 0, 0)
theorem h_X1_size_v2 : ck_chk M_X1_size_v2 (ck_kr (mF M_X1_size_v2) 2 1 C_X1_size_v2) K_X1_size I_X1_size_v2 2 26 S_X1_size_v2 = true := by decide +kernel
theorem o_X1_size_v2 : ck_ok5 C_X1_size_v2 = true := by decide +kernel
theorem a_X1_size_v2 : ck_ca cw_V RX1 cX1_size ⟨1, 0, 0, 21⟩ M_X1_size_v2 := fun _ l _ _ _ _ _ _ _ _ _ _ _ _ X hts htl hsw hnq =>
  (List.forall_mem_cons.mpr ⟨ck_cs_S (t_J13_bitCount_95d88 l) X hts htl hsw hnq ⟨rfl, rfl⟩ o_J13_bitCount_95d88 cw_good (ck_m4 tw_538 tw_539 tw_106 tw_540) hd_J13_bitCount_95d88 ⟨rfl, rfl⟩ ⟨by decide, by decide⟩, (fun _ h => absurd h List.not_mem_nil)⟩)
theorem t_X1_size_v2 (l : Launch) : ck_met cw_V l yX1_size cX1_size 3 (some .int) ⟨1, 0, 0, 21⟩ C_X1_size_v2 :=
  ck_meth (M := M_X1_size_v2) (rt := 1) (pre := []) false pn_X1_size rfl (fun h => by cases h) ⟨rfl, rfl, rfl, rfl, rfl⟩ ⟨rfl, rfl⟩ rfl (by decide) (by decide) (by decide) k_X1_size (tb_X1 ⟨rfl, rfl, rfl, rfl, rfl, rfl, rfl, rfl, rfl⟩) a_X1_size_v2 h_X1_size_v2 rfl
theorem hd_X1_lowest : yX1_lowest.cls ≠ "java/lang/invoke/MethodHandle" ∧ yX1_lowest.cls ≠ "java/lang/invoke/VarHandle" ∧ (parseMethodDescriptor yX1_lowest.desc).map (fun d => d.parameters.length) = some 1 := ⟨by decide, by decide, by decide +kernel⟩
theorem he_X1_lowest : yX1_lowest.cls ≠ "java/lang/invoke/MethodHandle" ∧ yX1_lowest.cls ≠ "java/lang/invoke/VarHandle" ∧ (parseMethodDescriptor yX1_lowest.desc).map (fun d => d.parameters.length + 1) = some 2 := ⟨by decide, by decide, by decide +kernel⟩
theorem pn_X1_lowest : plainFor yX1_lowest = true := by decide +kernel
def K_X1_lowest : ck_cd := [(0, .lload_n 0, 1), (1, .ldc2_w 25, 3), (4, .lxor, 1), (5, .lload_n 0, 1), (6, .lconst 1, 1), (7, .lsub, 1), (8, .land, 1), (9, .invokestatic 46, 3), (12, .ireturn, 1)]
theorem k_X1_lowest : ∀ x ∈ K_X1_lowest, decode cX1_lowest x.1 = .ok (x.2.1, x.2.2) := by decide +kernel
def C_X1_lowest : ck_C := (([(1, 1, [])], [], [(0, 0), ((-9223372036854775808), 9223372036854775807)], []), [([(0, 2, [])], [], [(1, 0), (1, 0), (0, 127)], [])], [], 0, 0)
def M_X1_lowest : ck_Me := (4, cw_TT, cw_SG, 2, fl_X1, pl_X1, nw_X1, kl_X1, il_X1, xl_X1, cw_al, [(3 * 46 + 1, 0, 1, C_J13_bitCount_95d88)], [], (0, 0), gl_X1)
def I_X1_lowest : List (Nat × ck_I) := []
def S_X1_lowest : ck_S := ([(0, (1, 1, []))], [], [(0, 1000, (8, 0, [])), (0, 1001, (8, 1, []))], [(0, 0), ((-9223372036854775808), 9223372036854775807)], [], 0, 0)
theorem h_X1_lowest : ck_chk M_X1_lowest (ck_kr (mF M_X1_lowest) 2 1 C_X1_lowest) K_X1_lowest I_X1_lowest 2 14 S_X1_lowest = true := by decide +kernel
theorem o_X1_lowest : ck_ok5 C_X1_lowest = true := by decide +kernel
theorem a_X1_lowest : ck_ca cw_V RX1 cX1_lowest ⟨1, 0, 0, 21⟩ M_X1_lowest := fun _ l _ _ _ _ _ _ _ _ _ _ _ _ X hts htl hsw hnq =>
  (List.forall_mem_cons.mpr ⟨ck_cs_S (t_J13_bitCount_95d88 l) X hts htl hsw hnq ⟨rfl, rfl⟩ o_J13_bitCount_95d88 cw_good (ck_m4 tw_538 tw_539 tw_106 tw_540) hd_J13_bitCount_95d88 ⟨rfl, rfl⟩ ⟨by decide, by decide⟩, (fun _ h => absurd h List.not_mem_nil)⟩)
theorem t_X1_lowest (l : Launch) : ck_met cw_V l yX1_lowest cX1_lowest 2 (some .int) ⟨1, 0, 0, 21⟩ C_X1_lowest :=
  ck_meth (M := M_X1_lowest) (rt := 1) (pre := []) false pn_X1_lowest rfl (fun h => by cases h) ⟨rfl, rfl, rfl, rfl, rfl⟩ ⟨rfl, rfl⟩ rfl (by decide) (by decide) (by decide) k_X1_lowest (tb_X1 ⟨rfl, rfl, rfl, rfl, rfl, rfl, rfl, rfl, rfl⟩) a_X1_lowest h_X1_lowest rfl
theorem hd_X1_after : yX1_after.cls ≠ "java/lang/invoke/MethodHandle" ∧ yX1_after.cls ≠ "java/lang/invoke/VarHandle" ∧ (parseMethodDescriptor yX1_after.desc).map (fun d => d.parameters.length) = some 1 := ⟨by decide, by decide, by decide +kernel⟩
theorem he_X1_after : yX1_after.cls ≠ "java/lang/invoke/MethodHandle" ∧ yX1_after.cls ≠ "java/lang/invoke/VarHandle" ∧ (parseMethodDescriptor yX1_after.desc).map (fun d => d.parameters.length + 1) = some 2 := ⟨by decide, by decide, by decide +kernel⟩
theorem pn_X1_after : plainFor yX1_after = true := by decide +kernel
def K_X1_after : ck_cd := [(0, .iload_n 1, 1), (1, .iconst 1, 1), (2, .iadd, 1), (3, .istore_n 2, 1), (4, .iload_n 2, 1), (5, .ifCond .ge 5, 3), (8, .iconst (-1), 1), (9, .ireturn, 1), (10, .iload_n 2, 1), (11, .bipush 6, 2), (13, .ishr, 1), (14, .istore_n 3, 1), (15, .iload_n 3, 1), (16, .aload_n 0, 1), (17, .getfield 13, 3), (20, .arraylength, 1), (21, .if_icmp .ge 61, 3), (24, .iload_n 3, 1), (25, .iload_n 2, 1), (26, .bipush 6, 2), (28, .ishr, 1), (29, .if_icmp .ne 21, 3), (32, .aload_n 0, 1), (33, .getfield 13, 3), (36, .iload_n 3, 1), (37, .laload, 1), (38, .ldc2_w 25, 3), (41, .iload_n 2, 1), (42, .bipush 63, 2), (44, .iand, 1), (45, .lshl, 1), (46, .land, 1), (47, .goto 9, 3), (50, .aload_n 0, 1), (51, .getfield 13, 3), (54, .iload_n 3, 1), (55, .laload, 1), (56, .lstore 4, 2), (58, .lload 4, 2), (60, .lconst 0, 1), (61, .lcmp, 1), (62, .ifCond .eq 14, 3), (65, .iload_n 3, 1), (66, .bipush 6, 2), (68, .ishl, 1), (69, .lload 4, 2), (71, .invokestatic 52, 3), (74, .iadd, 1), (75, .ireturn, 1), (76, .iinc 3 1, 3), (79, .goto (-64), 3), (82, .iconst (-1), 1), (83, .ireturn, 1)]
theorem k_X1_after : ∀ x ∈ K_X1_after, decode cX1_after x.1 = .ok (x.2.1, x.2.2) := by decide +kernel
def C_X1_after : ck_C := (([(2, 1, [5]), (0, 2, [])], [], [(0, 0), (1, 0), ((-2147483648), 2147483647)], []), [([(0, 3, [])], [], [(1, 0), (1, 0), (1, 0), ((-1), (-1))], []), ([(0, 3, [])], [], [(1, 0), (1, 0), (1, 0), (0, 4159)], [])], [], 0, 0)
def M_X1_after : ck_Me := (4, cw_TT, cw_SG, 6, fl_X1, pl_X1, nw_X1, kl_X1, il_X1, xl_X1, cw_al, [(3 * 52 + 1, 0, 1, C_X1_lowest)], [], (0, 0), gl_X1)
def I_X1_after : List (Nat × ck_I) := [(15, (([(0, (2, 1, [5])), (2, (0, 3, [])), (3, (0, 4, []))], [], [], [(0, 0), (1, 0), ((-2147483648), 2147483647), (0, 2147483647), (0, 33554431)], [], 0, 0), [(1, 4, 33554432), (0, 0, 1152921504606846976), (0, 0, 1152921504606846976)]))]
def S_X1_after : ck_S := ([(0, (2, 1, [5])), (1, (0, 2, []))], [], [(0, 1000, (8, 0, [])), (0, 1001, (8, 1, [])), (0, 1002, (8, 2, []))], [(0, 0), (1, 0), ((-2147483648), 2147483647)], [], 0, 0)
theorem h_X1_after : ck_chk M_X1_after (ck_kr (mF M_X1_after) 3 1 C_X1_after) K_X1_after I_X1_after 3 58 S_X1_after = true := by decide +kernel
theorem o_X1_after : ck_ok5 C_X1_after = true := by decide +kernel
theorem a_X1_after : ck_ca cw_V RX1 cX1_after ⟨2, 0, 0, 42⟩ M_X1_after := fun _ l _ _ _ _ _ _ _ _ _ _ _ _ X hts htl hsw hnq =>
  (List.forall_mem_cons.mpr ⟨ck_cs_S (t_X1_lowest l) X hts htl hsw hnq ⟨rfl, rfl⟩ o_X1_lowest cw_good (ck_m4 tw_697 tw_698 tw_97 tw_699) hd_X1_lowest ⟨rfl, rfl⟩ ⟨by decide, by decide⟩, (fun _ h => absurd h List.not_mem_nil)⟩)
theorem t_X1_after (l : Launch) : ck_met cw_V l yX1_after cX1_after 6 (some .int) ⟨2, 0, 0, 42⟩ C_X1_after :=
  ck_meth (M := M_X1_after) (rt := 1) (pre := []) false pn_X1_after rfl (fun h => by cases h) ⟨rfl, rfl, rfl, rfl, rfl⟩ ⟨rfl, rfl⟩ rfl (by decide) (by decide) (by decide) k_X1_after (tb_X1 ⟨rfl, rfl, rfl, rfl, rfl, rfl, rfl, rfl, rfl⟩) a_X1_after h_X1_after rfl
theorem hd_X1_sharing : yX1_sharing.cls ≠ "java/lang/invoke/MethodHandle" ∧ yX1_sharing.cls ≠ "java/lang/invoke/VarHandle" ∧ (parseMethodDescriptor yX1_sharing.desc).map (fun d => d.parameters.length) = some 1 := ⟨by decide, by decide, by decide +kernel⟩
theorem he_X1_sharing : yX1_sharing.cls ≠ "java/lang/invoke/MethodHandle" ∧ yX1_sharing.cls ≠ "java/lang/invoke/VarHandle" ∧ (parseMethodDescriptor yX1_sharing.desc).map (fun d => d.parameters.length + 1) = some 2 := ⟨by decide, by decide, by decide +kernel⟩
theorem pn_X1_sharing : plainFor yX1_sharing = true := by decide +kernel
def K_X1_sharing : ck_cd := [(0, .iconst 0, 1), (1, .istore_n 2, 1), (2, .iconst 0, 1), (3, .istore_n 3, 1), (4, .iload_n 3, 1), (5, .aload_n 0, 1), (6, .getfield 13, 3), (9, .arraylength, 1), (10, .if_icmp .ge 66, 3), (13, .iload_n 1, 1), (14, .ifCond .lt 32, 3), (17, .iload_n 1, 1), (18, .getstatic 27, 3), (21, .arraylength, 1), (22, .if_icmp .ge 24, 3), (25, .iload_n 2, 1), (26, .aload_n 0, 1), (27, .getfield 13, 3), (30, .iload_n 3, 1), (31, .laload, 1), (32, .getstatic 27, 3), (35, .iload_n 1, 1), (36, .laload, 1), (37, .land, 1), (38, .invokestatic 46, 3), (41, .iadd, 1), (42, .istore_n 2, 1), (43, .goto 27, 3), (46, .iload_n 3, 1), (47, .iload_n 1, 1), (48, .bipush 6, 2), (50, .isub, 1), (51, .ishr, 1), (52, .iconst 1, 1), (53, .iand, 1), (54, .iconst 1, 1), (55, .if_icmp .ne 15, 3), (58, .iload_n 2, 1), (59, .aload_n 0, 1), (60, .getfield 13, 3), (63, .iload_n 3, 1), (64, .laload, 1), (65, .invokestatic 46, 3), (68, .iadd, 1), (69, .istore_n 2, 1), (70, .iinc 3 1, 3), (73, .goto (-69), 3), (76, .iload_n 2, 1), (77, .ireturn, 1)]
theorem k_X1_sharing : ∀ x ∈ K_X1_sharing, decode cX1_sharing x.1 = .ok (x.2.1, x.2.2) := by decide +kernel
def C_X1_sharing : ck_C := (([(2, 1, [5]), (0, 2, [])], [], [(0, 0), (1, 0), ((-2147483648), 2147483647)], []), [([(0, 3, [])], [], [(1, 0), (1, 0), (1, 0), ((-2147483648), 2147483647)], [])], [], 0, 0)
def M_X1_sharing : ck_Me := (4, cw_TT, cw_SG, 4, fl_X1, pl_X1, nw_X1, kl_X1, il_X1, xl_X1, cw_al, [(3 * 46 + 1, 0, 1, C_J13_bitCount_95d88)], [], (0, 0), gl_X1)
def I_X1_sharing : List (Nat × ck_I) := [(4, (([(0, (2, 1, [5])), (1, (0, 2, [])), (2, (0, 3, [])), (3, (0, 4, []))], [], [], [(0, 0), (1, 0), ((-2147483648), 2147483647), ((-2147483648), 2147483647), (0, 64)], [], 0, 0), [(1, 4, 65), (0, 0, 1152921504606846976), (0, 0, 1152921504606846976)]))]
def S_X1_sharing : ck_S := ([(0, (2, 1, [5])), (1, (0, 2, []))], [], [(0, 1000, (8, 0, [])), (0, 1001, (8, 1, [])), (0, 1002, (8, 2, []))], [(0, 0), (1, 0), ((-2147483648), 2147483647)], [], 0, 0)
theorem h_X1_sharing : ck_chk M_X1_sharing (ck_kr (mF M_X1_sharing) 3 1 C_X1_sharing) K_X1_sharing I_X1_sharing 3 54 S_X1_sharing = true := by decide +kernel
theorem o_X1_sharing : ck_ok5 C_X1_sharing = true := by decide +kernel
theorem a_X1_sharing : ck_ca cw_V RX1 cX1_sharing ⟨1, 0, 0, 21⟩ M_X1_sharing := fun _ l _ _ _ _ _ _ _ _ _ _ _ _ X hts htl hsw hnq =>
  (List.forall_mem_cons.mpr ⟨ck_cs_S (t_J13_bitCount_95d88 l) X hts htl hsw hnq ⟨rfl, rfl⟩ o_J13_bitCount_95d88 cw_good (ck_m4 tw_538 tw_539 tw_106 tw_540) hd_J13_bitCount_95d88 ⟨rfl, rfl⟩ ⟨by decide, by decide⟩, (fun _ h => absurd h List.not_mem_nil)⟩)
theorem t_X1_sharing (l : Launch) : ck_met cw_V l yX1_sharing cX1_sharing 4 (some .int) ⟨1, 0, 0, 21⟩ C_X1_sharing :=
  ck_meth (M := M_X1_sharing) (rt := 1) (pre := []) false pn_X1_sharing rfl (fun h => by cases h) ⟨rfl, rfl, rfl, rfl, rfl⟩ ⟨rfl, rfl⟩ rfl (by decide) (by decide) (by decide) k_X1_sharing (tb_X1 ⟨rfl, rfl, rfl, rfl, rfl, rfl, rfl, rfl, rfl⟩) a_X1_sharing h_X1_sharing rfl
theorem hd_X11_drop : yX11_drop.cls ≠ "java/lang/invoke/MethodHandle" ∧ yX11_drop.cls ≠ "java/lang/invoke/VarHandle" ∧ (parseMethodDescriptor yX11_drop.desc).map (fun d => d.parameters.length) = some 2 := ⟨by decide, by decide, by decide +kernel⟩
theorem he_X11_drop : yX11_drop.cls ≠ "java/lang/invoke/MethodHandle" ∧ yX11_drop.cls ≠ "java/lang/invoke/VarHandle" ∧ (parseMethodDescriptor yX11_drop.desc).map (fun d => d.parameters.length + 1) = some 3 := ⟨by decide, by decide, by decide +kernel⟩
theorem pn_X11_drop : plainFor yX11_drop = true := by decide +kernel
def K_X11_drop : ck_cd := [(0, .aload_n 0, 1), (1, .getfield 41, 3), (4, .iload_n 1, 1), (5, .invokevirtual 201, 3), (8, .astore_n 3, 1), (9, .aload_n 3, 1), (10, .ifnonnull 5, 3), (13, .iconst (-1), 1), (14, .ireturn, 1), (15, .iload_n 2, 1), (16, .bipush (-9), 2), (18, .if_icmp .eq 13, 3), (21, .iload_n 2, 1), (22, .invokestatic 168, 3), (25, .ifCond .ne 6, 3), (28, .bipush (-2), 2), (30, .ireturn, 1), (31, .aload_n 3, 1), (32, .getfield 220, 3), (35, .istore 4, 2), (37, .aload_n 3, 1), (38, .iload_n 2, 1), (39, .putfield 220, 3), (42, .iload 4, 2), (44, .ireturn, 1)]
theorem k_X11_drop : ∀ x ∈ K_X11_drop, decode cX11_drop x.1 = .ok (x.2.1, x.2.2) := by decide +kernel
def C_X11_drop : ck_C := (([(2, 1, [11]), (0, 2, []), (0, 3, [])], [], [(0, 0), (1, 0), ((-2147483648), 2147483647), ((-2147483648), 2147483647)], []), [([(0, 4, [])], [], [(1, 0), (1, 0), (1, 0), (1, 0), ((-1), (-1))], []), ([(0, 4, [])], [], [(1, 0), (1, 0), (1, 0), (1, 0), ((-2), (-2))], [(2, 0, 11), (0, 2, 0)]), ([(0, 4, [])], [], [(1, 0), (1, 0), (1, 0), (1, 0), ((-2147483648), 2147483647)], [(2, 0, 11), (0, 2, 0), (3, 0, 99), (0, 3, 9)])], [(7, 6)], 0, 0)
def M_X11_drop : ck_Me := (4, cw_TT, cw_SG, 5, fl_X11, pl_X11, nw_X11, kl_X11, il_X11, xl_X11, cw_al, [(3 * 168 + 1, 0, 1, C_X11_isTime), (3 * 201, 13, 2, C_X2_entryAt)], [(7, 6)], (0, 0), gl_X11)
def I_X11_drop : List (Nat × ck_I) := []
def S_X11_drop : ck_S := ([(0, (2, 1, [11])), (1, (0, 2, [])), (2, (0, 3, []))], [], [(0, 1000, (8, 0, [])), (0, 1001, (8, 1, [])), (0, 1002, (8, 2, [])), (0, 1003, (8, 3, []))], [(0, 0), (1, 0), ((-2147483648), 2147483647), ((-2147483648), 2147483647)], [], 0, 0)
theorem h_X11_drop : ck_chk M_X11_drop (ck_kr (mF M_X11_drop) 4 1 C_X11_drop) K_X11_drop I_X11_drop 4 30 S_X11_drop = true := by decide +kernel
theorem o_X11_drop : ck_ok5 C_X11_drop = true := by decide +kernel
theorem a_X11_drop : ck_ca cw_V RX11 cX11_drop ⟨1, 0, 0, 21⟩ M_X11_drop := fun _ l _ _ _ _ _ _ _ _ _ _ _ _ X hts htl hsw hnq =>
  (List.forall_mem_cons.mpr ⟨ck_cs_S (t_X11_isTime l) X hts htl hsw hnq ⟨rfl, rfl⟩ o_X11_isTime cw_good (ck_m4 tw_578 tw_579 tw_95 tw_580) hd_X11_isTime ⟨rfl, rfl⟩ ⟨by decide, by decide⟩, (List.forall_mem_cons.mpr ⟨ck_cs_V (t_X2_entryAt l) X hts htl hsw hnq ⟨rfl, rfl⟩ o_X2_entryAt cw_good (ck_m5 tw_660 tw_647 tw_648 tw_99 tw_649) (by decide) rfl rfl rfl he_X2_entryAt ⟨rfl, rfl⟩ ⟨by decide, by decide⟩, (fun _ h => absurd h List.not_mem_nil)⟩)⟩)
theorem t_X11_drop (l : Launch) : ck_met cw_V l yX11_drop cX11_drop 5 (some .int) ⟨1, 0, 0, 21⟩ C_X11_drop :=
  ck_meth (M := M_X11_drop) (rt := 1) (pre := []) false pn_X11_drop rfl (fun h => by cases h) ⟨rfl, rfl, rfl, rfl, rfl⟩ ⟨rfl, rfl⟩ rfl (by decide) (by decide) (by decide) k_X11_drop (tb_X11 ⟨rfl, rfl, rfl, rfl, rfl, rfl, rfl, rfl, rfl⟩) a_X11_drop h_X11_drop rfl
theorem hd_X2_areEntries : yX2_areEntries.cls ≠ "java/lang/invoke/MethodHandle" ∧ yX2_areEntries.cls ≠ "java/lang/invoke/VarHandle" ∧ (parseMethodDescriptor yX2_areEntries.desc).map (fun d => d.parameters.length) = some 1 := ⟨by decide, by decide, by decide +kernel⟩
theorem he_X2_areEntries : yX2_areEntries.cls ≠ "java/lang/invoke/MethodHandle" ∧ yX2_areEntries.cls ≠ "java/lang/invoke/VarHandle" ∧ (parseMethodDescriptor yX2_areEntries.desc).map (fun d => d.parameters.length + 1) = some 2 := ⟨by decide, by decide, by decide +kernel⟩
theorem pn_X2_areEntries : plainFor yX2_areEntries = true := by decide +kernel
def K_X2_areEntries : ck_cd := [(0, .iload_n 1, 1), (1, .iconst 1, 1), (2, .aload_n 0, 1), (3, .getfield 58, 3), (6, .ishl, 1), (7, .iconst 1, 1), (8, .isub, 1), (9, .iconst (-1), 1), (10, .ixor, 1), (11, .iand, 1), (12, .ifCond .ne 7, 3), (15, .iconst 1, 1), (16, .goto 4, 3), (19, .iconst 0, 1), (20, .ireturn, 1)]
theorem k_X2_areEntries : ∀ x ∈ K_X2_areEntries, decode cX2_areEntries x.1 = .ok (x.2.1, x.2.2) := by decide +kernel
def C_X2_areEntries : ck_C := (([(2, 1, [13]), (0, 2, [])], [], [(0, 0), (1, 0), ((-2147483648), 2147483647)], []), [([(0, 3, [])], [], [(1, 0), (1, 0), (1, 0), (1, 1)], []), ([(0, 3, [])], [], [(1, 0), (1, 0), (1, 0), (0, 0)], [])], [], 0, 0)
def M_X2_areEntries : ck_Me := (4, cw_TT, cw_SG, 2, fl_X2, pl_X2, nw_X2, kl_X2, il_X2, xl_X2, cw_al, [], [], (0, 0), gl_X2)
def I_X2_areEntries : List (Nat × ck_I) := []
def S_X2_areEntries : ck_S := ([(0, (2, 1, [13])), (1, (0, 2, []))], [], [(0, 1000, (8, 0, [])), (0, 1001, (8, 1, [])), (0, 1002, (8, 2, []))], [(0, 0), (1, 0), ((-2147483648), 2147483647)], [], 0, 0)
theorem h_X2_areEntries : ck_chk M_X2_areEntries (ck_kr (mF M_X2_areEntries) 3 2 C_X2_areEntries) K_X2_areEntries I_X2_areEntries 3 20 S_X2_areEntries = true := by decide +kernel
theorem o_X2_areEntries : ck_ok5 C_X2_areEntries = true := by decide +kernel
theorem a_X2_areEntries : ck_ca cw_V RX2 cX2_areEntries ⟨0, 0, 0, 0⟩ M_X2_areEntries := fun _ _ _ _ _ _ _ _ _ _ _ _ _ _ _ _ _ _ _ _ h => absurd h List.not_mem_nil
theorem t_X2_areEntries (l : Launch) : ck_met cw_V l yX2_areEntries cX2_areEntries 2 (some .boolean) ⟨0, 0, 0, 0⟩ C_X2_areEntries :=
  ck_meth (M := M_X2_areEntries) (rt := 2) (pre := []) false pn_X2_areEntries rfl (fun h => by cases h) ⟨rfl, rfl, rfl, rfl, rfl⟩ ⟨rfl, rfl⟩ rfl (by decide) (by decide) (by decide) k_X2_areEntries (tb_X2 ⟨rfl, rfl, rfl, rfl, rfl, rfl, rfl, rfl, rfl⟩) a_X2_areEntries h_X2_areEntries rfl
def C_X1_add_v2 : ck_C := (([(2, 1, [1]), (0, 2, [])], [], [(0, 0), (1, 0), ((-2147483648), 2147483647)], []), [([], [], [(1, 0), (1, 0), (1, 0)], [])], [(2, 0)], 0, 0)
def M_X1_add_v2 : ck_Me := (4, cw_TT, cw_SG, 3, fl_X1, pl_X1, nw_X1, kl_X1, il_X1, xl_X1, cw_al, [], [(2, 0)], (0, 0), gl_X1)
def I_X1_add_v2 : List (Nat × ck_I) := []
def S_X1_add_v2 : ck_S := ([(0, (2, 1, [1])), (1, (0, 2, []))], [], [(0, 1000, (8, 0, [])), (0, 1001, (8, 1, [])), (0, 1002, (8, 2, []))], [(0, 0), (1, 0), ((-2147483648), 2147483647)], [], 0, 0)
theorem h_X1_add_v2 : ck_chk M_X1_add_v2 (ck_kr (mF M_X1_add_v2) 3 0 C_X1_add_v2) K_X1_add I_X1_add_v2 3 29 S_X1_add_v2 = true := by decide +kernel
theorem o_X1_add_v2 : ck_ok5 C_X1_add_v2 = true := by decide +kernel
theorem a_X1_add_v2 : ck_ca cw_V RX1 cX1_add ⟨0, 0, 0, 0⟩ M_X1_add_v2 := fun _ _ _ _ _ _ _ _ _ _ _ _ _ _ _ _ _ _ _ _ h => absurd h List.not_mem_nil
theorem t_X1_add_v2 (l : Launch) : ck_met cw_V l yX1_add cX1_add 3 none ⟨0, 0, 0, 0⟩ C_X1_add_v2 :=
  ck_meth (M := M_X1_add_v2) (rt := 0) (pre := []) false pn_X1_add rfl (fun h => by cases h) ⟨rfl, rfl, rfl, rfl, rfl⟩ ⟨rfl, rfl⟩ rfl (by decide) (by decide) (by decide) k_X1_add (tb_X1 ⟨rfl, rfl, rfl, rfl, rfl, rfl, rfl, rfl, rfl⟩) a_X1_add_v2 h_X1_add_v2 rfl
theorem hd_X2_gather : yX2_gather.cls ≠ "java/lang/invoke/MethodHandle" ∧ yX2_gather.cls ≠ "java/lang/invoke/VarHandle" ∧ (parseMethodDescriptor yX2_gather.desc).map (fun d => d.parameters.length) = some 2 := ⟨by decide, by decide, by decide +kernel⟩
theorem he_X2_gather : yX2_gather.cls ≠ "java/lang/invoke/MethodHandle" ∧ yX2_gather.cls ≠ "java/lang/invoke/VarHandle" ∧ (parseMethodDescriptor yX2_gather.desc).map (fun d => d.parameters.length + 1) = some 3 := ⟨by decide, by decide, by decide +kernel⟩
theorem pn_X2_gather : plainFor yX2_gather = true := by decide +kernel
def K_X2_gather : ck_cd := [(0, .aload_n 2, 1), (1, .invokevirtual 93, 3), (4, .iconst 0, 1), (5, .istore_n 3, 1), (6, .iload_n 3, 1), (7, .sipush 256, 3), (10, .if_icmp .ge 27, 3), (13, .iload_n 1, 1), (14, .aload_n 0, 1), (15, .getfield 25, 3), (18, .iload_n 3, 1), (19, .iaload, 1), (20, .iconst (-1), 1), (21, .ixor, 1), (22, .iand, 1), (23, .ifCond .ne 8, 3), (26, .aload_n 2, 1), (27, .iload_n 3, 1), (28, .invokevirtual 96, 3), (31, .iinc 3 1, 3), (34, .goto (-28), 3), (37, .return_, 1)]
theorem k_X2_gather : ∀ x ∈ K_X2_gather, decode cX2_gather x.1 = .ok (x.2.1, x.2.2) := by decide +kernel
def C_X2_gather : ck_C := (([(2, 1, [13]), (0, 2, []), (2, 3, [1])], [], [(0, 0), (1, 0), ((-2147483648), 2147483647), (1, 0)], []), [([], [], [(1, 0), (1, 0), (1, 0), (1, 0)], [])], [(2, 0)], 0, 0)
def M_X2_gather : ck_Me := (4, cw_TT, cw_SG, 4, fl_X2, pl_X2, nw_X2, kl_X2, il_X2, xl_X2, cw_al, [(3 * 93, 1, 1, C_X1_clear), (3 * 96, 1, 2, C_X1_add_v2)], [(2, 0)], (0, 0), gl_X2)
def I_X2_gather : List (Nat × ck_I) := [(6, (([(0, (2, 1, [13])), (1, (0, 2, [])), (2, (2, 3, [1])), (3, (0, 4, []))], [], [], [(0, 0), (1, 0), ((-2147483648), 2147483647), (1, 0), (0, 256)], [], 0, 0), [(1, 4, 257), (0, 0, 1152921504606846976), (0, 0, 1152921504606846976)]))]
def S_X2_gather : ck_S := ([(0, (2, 1, [13])), (1, (0, 2, [])), (2, (2, 3, [1]))], [], [(0, 1000, (8, 0, [])), (0, 1001, (8, 1, [])), (0, 1002, (8, 2, [])), (0, 1003, (8, 3, []))], [(0, 0), (1, 0), ((-2147483648), 2147483647), (1, 0)], [], 0, 0)
theorem h_X2_gather : ck_chk M_X2_gather (ck_kr (mF M_X2_gather) 4 0 C_X2_gather) K_X2_gather I_X2_gather 4 27 S_X2_gather = true := by decide +kernel
theorem o_X2_gather : ck_ok5 C_X2_gather = true := by decide +kernel
theorem a_X2_gather : ck_ca cw_V RX2 cX2_gather ⟨2, 0, 0, 44⟩ M_X2_gather := fun _ l _ _ _ _ _ _ _ _ _ _ _ _ X hts htl hsw hnq =>
  (List.forall_mem_cons.mpr ⟨ck_cs_V (t_X1_clear l) X hts htl hsw hnq ⟨rfl, rfl⟩ o_X1_clear cw_good (ck_m5 tw_674 tw_486 tw_487 tw_97 tw_488) (by decide) rfl rfl rfl he_X1_clear ⟨rfl, rfl⟩ ⟨by decide, by decide⟩, (List.forall_mem_cons.mpr ⟨ck_cs_V (t_X1_add_v2 l) X hts htl hsw hnq ⟨rfl, rfl⟩ o_X1_add_v2 cw_good (ck_m5 tw_675 tw_676 tw_677 tw_97 tw_678) (by decide) rfl rfl rfl he_X1_add ⟨rfl, rfl⟩ ⟨by decide, by decide⟩, (fun _ h => absurd h List.not_mem_nil)⟩)⟩)
theorem t_X2_gather (l : Launch) : ck_met cw_V l yX2_gather cX2_gather 4 none ⟨2, 0, 0, 44⟩ C_X2_gather :=
  ck_meth (M := M_X2_gather) (rt := 0) (pre := []) false pn_X2_gather rfl (fun h => by cases h) ⟨rfl, rfl, rfl, rfl, rfl⟩ ⟨rfl, rfl⟩ rfl (by decide) (by decide) (by decide) k_X2_gather (tb_X2 ⟨rfl, rfl, rfl, rfl, rfl, rfl, rfl, rfl, rfl⟩) a_X2_gather h_X2_gather rfl
theorem hd_X11_together : yX11_together.cls ≠ "java/lang/invoke/MethodHandle" ∧ yX11_together.cls ≠ "java/lang/invoke/VarHandle" ∧ (parseMethodDescriptor yX11_together.desc).map (fun d => d.parameters.length) = some 1 := ⟨by decide, by decide, by decide +kernel⟩
theorem he_X11_together : yX11_together.cls ≠ "java/lang/invoke/MethodHandle" ∧ yX11_together.cls ≠ "java/lang/invoke/VarHandle" ∧ (parseMethodDescriptor yX11_together.desc).map (fun d => d.parameters.length + 1) = some 2 := ⟨by decide, by decide, by decide +kernel⟩
theorem pn_X11_together : plainFor yX11_together = true := by decide +kernel
def K_X11_together : ck_cd := [(0, .aload_n 0, 1), (1, .getfield 41, 3), (4, .iload_n 1, 1), (5, .invokevirtual 233, 3), (8, .ifCond .ne 6, 3), (11, .bipush (-2), 2), (13, .ireturn, 1), (14, .aload_n 0, 1), (15, .getfield 41, 3), (18, .iload_n 1, 1), (19, .aload_n 0, 1), (20, .getfield 28, 3), (23, .invokevirtual 239, 3), (26, .aload_n 0, 1), (27, .getfield 28, 3), (30, .invokevirtual 146, 3), (33, .ireturn, 1)]
theorem k_X11_together : ∀ x ∈ K_X11_together, decode cX11_together x.1 = .ok (x.2.1, x.2.2) := by decide +kernel
def C_X11_together : ck_C := (([(2, 1, [11]), (0, 2, [])], [], [(0, 0), (1, 0), ((-2147483648), 2147483647)], []), [([(0, 3, [])], [], [(1, 0), (1, 0), (1, 0), ((-2), (-2))], []), ([(0, 3, [])], [], [(1, 0), (1, 0), (1, 0), ((-2147483648), 2147483647)], [])], [(2, 0)], 0, 0)
def M_X11_together : ck_Me := (4, cw_TT, cw_SG, 2, fl_X11, pl_X11, nw_X11, kl_X11, il_X11, xl_X11, cw_al, [(3 * 146, 1, 1, C_X1_size), (3 * 233, 13, 2, C_X2_areEntries), (3 * 239, 13, 3, C_X2_gather)], [(2, 0)], (0, 0), gl_X11)
def I_X11_together : List (Nat × ck_I) := []
def S_X11_together : ck_S := ([(0, (2, 1, [11])), (1, (0, 2, []))], [], [(0, 1000, (8, 0, [])), (0, 1001, (8, 1, [])), (0, 1002, (8, 2, []))], [(0, 0), (1, 0), ((-2147483648), 2147483647)], [], 0, 0)
theorem h_X11_together : ck_chk M_X11_together (ck_kr (mF M_X11_together) 3 1 C_X11_together) K_X11_together I_X11_together 3 22 S_X11_together = true := by decide +kernel
theorem o_X11_together : ck_ok5 C_X11_together = true := by decide +kernel
theorem a_X11_together : ck_ca cw_V RX11 cX11_together ⟨3, 0, 0, 67⟩ M_X11_together := fun _ l _ _ _ _ _ _ _ _ _ _ _ _ X hts htl hsw hnq =>
  (List.forall_mem_cons.mpr ⟨ck_cs_V (t_X1_size l) X hts htl hsw hnq ⟨rfl, rfl⟩ o_X1_size cw_good (ck_m5 tw_534 tw_535 tw_536 tw_97 tw_537) (by decide) rfl rfl rfl he_X1_size ⟨rfl, rfl⟩ ⟨by decide, by decide⟩, (List.forall_mem_cons.mpr ⟨ck_cs_V (t_X2_areEntries l) X hts htl hsw hnq ⟨rfl, rfl⟩ o_X2_areEntries cw_good (ck_m5 tw_713 tw_714 tw_715 tw_99 tw_716) (by decide) rfl rfl rfl he_X2_areEntries ⟨rfl, rfl⟩ ⟨by decide, by decide⟩, (List.forall_mem_cons.mpr ⟨ck_cs_V (t_X2_gather l) X hts htl hsw hnq ⟨rfl, rfl⟩ o_X2_gather cw_good (ck_m5 tw_726 tw_727 tw_728 tw_99 tw_729) (by decide) rfl rfl rfl he_X2_gather ⟨rfl, rfl⟩ ⟨by decide, by decide⟩, (fun _ h => absurd h List.not_mem_nil)⟩)⟩)⟩)
theorem t_X11_together (l : Launch) : ck_met cw_V l yX11_together cX11_together 2 (some .int) ⟨3, 0, 0, 67⟩ C_X11_together :=
  ck_meth (M := M_X11_together) (rt := 1) (pre := []) false pn_X11_together rfl (fun h => by cases h) ⟨rfl, rfl, rfl, rfl, rfl⟩ ⟨rfl, rfl⟩ rfl (by decide) (by decide) (by decide) k_X11_together (tb_X11 ⟨rfl, rfl, rfl, rfl, rfl, rfl, rfl, rfl, rfl⟩) a_X11_together h_X11_together rfl
def C_X1_turn_v2 : ck_C := (([(2, 1, [5])], [], [(0, 0), (1, 0)], []), [([], [], [(1, 0), (1, 0)], [])], [(6, 0)], 0, 0)
def M_X1_turn_v2 : ck_Me := (4, cw_TT, cw_SG, 2, fl_X1, pl_X1, nw_X1, kl_X1, il_X1, xl_X1, cw_al, [], [(6, 0)], (0, 0), gl_X1)
def I_X1_turn_v2 : List (Nat × ck_I) := [(2, (([(0, (2, 1, [5])), (1, (0, 2, []))], [], [], [(0, 0), (1, 0), (0, 64)], [], 0, 0), [(1, 2, 65), (0, 0, 1152921504606846976), (0, 0, 1152921504606846976)]))]
def S_X1_turn_v2 : ck_S := ([(0, (2, 1, [5]))], [], [(0, 1000, (8, 0, [])), (0, 1001, (8, 1, []))], [(0, 0), (1, 0)], [], 0, 0)
theorem h_X1_turn_v2 : ck_chk M_X1_turn_v2 (ck_kr (mF M_X1_turn_v2) 2 0 C_X1_turn_v2) K_X1_turn I_X1_turn_v2 2 25 S_X1_turn_v2 = true := by decide +kernel
theorem o_X1_turn_v2 : ck_ok5 C_X1_turn_v2 = true := by decide +kernel
theorem a_X1_turn_v2 : ck_ca cw_V RX1 cX1_turn ⟨0, 0, 0, 0⟩ M_X1_turn_v2 := fun _ _ _ _ _ _ _ _ _ _ _ _ _ _ _ _ _ _ _ _ h => absurd h List.not_mem_nil
theorem t_X1_turn_v2 (l : Launch) : ck_met cw_V l yX1_turn cX1_turn 2 none ⟨0, 0, 0, 0⟩ C_X1_turn_v2 :=
  ck_meth (M := M_X1_turn_v2) (rt := 0) (pre := []) false pn_X1_turn rfl (fun h => by cases h) ⟨rfl, rfl, rfl, rfl, rfl⟩ ⟨rfl, rfl⟩ rfl (by decide) (by decide) (by decide) k_X1_turn (tb_X1 ⟨rfl, rfl, rfl, rfl, rfl, rfl, rfl, rfl, rfl⟩) a_X1_turn_v2 h_X1_turn_v2 rfl
theorem hd_X1_raised : yX1_raised.cls ≠ "java/lang/invoke/MethodHandle" ∧ yX1_raised.cls ≠ "java/lang/invoke/VarHandle" ∧ (parseMethodDescriptor yX1_raised.desc).map (fun d => d.parameters.length) = some 2 := ⟨by decide, by decide, by decide +kernel⟩
theorem he_X1_raised : yX1_raised.cls ≠ "java/lang/invoke/MethodHandle" ∧ yX1_raised.cls ≠ "java/lang/invoke/VarHandle" ∧ (parseMethodDescriptor yX1_raised.desc).map (fun d => d.parameters.length + 1) = some 3 := ⟨by decide, by decide, by decide +kernel⟩
theorem pn_X1_raised : plainFor yX1_raised = true := by decide +kernel
def K_X1_raised : ck_cd := [(0, .iload_n 1, 1), (1, .ifCond .lt 32, 3), (4, .iload_n 1, 1), (5, .getstatic 27, 3), (8, .arraylength, 1), (9, .if_icmp .ge 24, 3), (12, .aload_n 0, 1), (13, .getfield 13, 3), (16, .iload_n 2, 1), (17, .laload, 1), (18, .getstatic 27, 3), (21, .iload_n 1, 1), (22, .laload, 1), (23, .ldc2_w 25, 3), (26, .lxor, 1), (27, .land, 1), (28, .iconst 1, 1), (29, .iload_n 1, 1), (30, .ishl, 1), (31, .lshl, 1), (32, .lreturn, 1), (33, .iload_n 2, 1), (34, .iconst 1, 1), (35, .iload_n 1, 1), (36, .bipush 6, 2), (38, .isub, 1), (39, .ishl, 1), (40, .isub, 1), (41, .istore_n 3, 1), (42, .iload_n 2, 1), (43, .iload_n 1, 1), (44, .bipush 6, 2), (46, .isub, 1), (47, .ishr, 1), (48, .iconst 1, 1), (49, .iand, 1), (50, .iconst 1, 1), (51, .if_icmp .ne 16, 3), (54, .iload_n 3, 1), (55, .ifCond .lt 12, 3), (58, .aload_n 0, 1), (59, .getfield 13, 3), (62, .iload_n 3, 1), (63, .laload, 1), (64, .goto 4, 3), (67, .lconst 0, 1), (68, .lreturn, 1)]
theorem k_X1_raised : ∀ x ∈ K_X1_raised, decode cX1_raised x.1 = .ok (x.2.1, x.2.2) := by decide +kernel
def C_X1_raised : ck_C := (([(2, 1, [5]), (0, 2, []), (0, 3, [])], [], [(0, 0), (1, 0), (0, 11), (0, 63)], []), [([(1, 4, [])], [], [(1, 0), (1, 0), (1, 0), (1, 0), ((-9223372036854775808), 9223372036854775807)], []), ([(1, 4, [])], [], [(1, 0), (1, 0), (1, 0), (1, 0), (0, 0)], [(0, 2, (-6))])], [], 0, 0)
def M_X1_raised : ck_Me := (4, cw_TT, cw_SG, 4, fl_X1, pl_X1, nw_X1, kl_X1, il_X1, xl_X1, cw_al, [], [], (0, 0), gl_X1)
def I_X1_raised : List (Nat × ck_I) := []
def S_X1_raised : ck_S := ([(0, (2, 1, [5])), (1, (0, 2, [])), (2, (0, 3, []))], [], [(0, 1000, (8, 0, [])), (0, 1001, (8, 1, [])), (0, 1002, (8, 2, [])), (0, 1003, (8, 3, []))], [(0, 0), (1, 0), (0, 11), (0, 63)], [], 0, 0)
theorem h_X1_raised : ck_chk M_X1_raised (ck_kr (mF M_X1_raised) 4 3 C_X1_raised) K_X1_raised I_X1_raised 4 52 S_X1_raised = true := by decide +kernel
theorem o_X1_raised : ck_ok5 C_X1_raised = true := by decide +kernel
theorem a_X1_raised : ck_ca cw_V RX1 cX1_raised ⟨0, 0, 0, 0⟩ M_X1_raised := fun _ _ _ _ _ _ _ _ _ _ _ _ _ _ _ _ _ _ _ _ h => absurd h List.not_mem_nil
theorem t_X1_raised (l : Launch) : ck_met cw_V l yX1_raised cX1_raised 4 (some .long) ⟨0, 0, 0, 0⟩ C_X1_raised :=
  ck_meth (M := M_X1_raised) (rt := 3) (pre := []) false pn_X1_raised rfl (fun h => by cases h) ⟨rfl, rfl, rfl, rfl, rfl⟩ ⟨rfl, rfl⟩ rfl (by decide) (by decide) (by decide) k_X1_raised (tb_X1 ⟨rfl, rfl, rfl, rfl, rfl, rfl, rfl, rfl, rfl⟩) a_X1_raised h_X1_raised rfl
theorem hd_X1_at : yX1_at.cls ≠ "java/lang/invoke/MethodHandle" ∧ yX1_at.cls ≠ "java/lang/invoke/VarHandle" ∧ (parseMethodDescriptor yX1_at.desc).map (fun d => d.parameters.length) = some 1 := ⟨by decide, by decide, by decide +kernel⟩
theorem he_X1_at : yX1_at.cls ≠ "java/lang/invoke/MethodHandle" ∧ yX1_at.cls ≠ "java/lang/invoke/VarHandle" ∧ (parseMethodDescriptor yX1_at.desc).map (fun d => d.parameters.length + 1) = some 2 := ⟨by decide, by decide, by decide +kernel⟩
theorem pn_X1_at : plainFor yX1_at = true := by decide +kernel
def K_X1_at : ck_cd := [(0, .iload_n 1, 1), (1, .istore_n 2, 1), (2, .iconst 0, 1), (3, .istore_n 3, 1), (4, .iload_n 3, 1), (5, .aload_n 0, 1), (6, .getfield 13, 3), (9, .arraylength, 1), (10, .if_icmp .ge 69, 3), (13, .iload_n 2, 1), (14, .ifCond .lt 65, 3), (17, .aload_n 0, 1), (18, .getfield 13, 3), (21, .iload_n 3, 1), (22, .laload, 1), (23, .lstore 4, 2), (25, .lload 4, 2), (27, .invokestatic 46, 3), (30, .istore 6, 2), (32, .iload_n 2, 1), (33, .iload 6, 2), (35, .if_icmp .ge 33, 3), (38, .iload_n 2, 1), (39, .ifCond .le 18, 3), (42, .lload 4, 2), (44, .lload 4, 2), (46, .lconst 1, 1), (47, .lsub, 1), (48, .land, 1), (49, .lstore 4, 2), (51, .iinc 2 (-1), 3), (54, .goto (-16), 3), (57, .iload_n 3, 1), (58, .bipush 6, 2), (60, .ishl, 1), (61, .lload 4, 2), (63, .invokestatic 52, 3), (66, .iadd, 1), (67, .ireturn, 1), (68, .iload_n 2, 1), (69, .iload 6, 2), (71, .isub, 1), (72, .istore_n 2, 1), (73, .iinc 3 1, 3), (76, .goto (-72), 3), (79, .iconst (-1), 1), (80, .ireturn, 1)]
theorem k_X1_at : ∀ x ∈ K_X1_at, decode cX1_at x.1 = .ok (x.2.1, x.2.2) := by decide +kernel
def C_X1_at : ck_C := (([(2, 1, [5]), (0, 2, [])], [], [(0, 0), (1, 0), ((-2147483648), 2147483647)], []), [([(0, 3, [])], [], [(1, 0), (1, 0), (1, 0), ((-1), (-1))], []), ([(0, 3, [])], [], [(1, 0), (1, 0), (1, 0), (0, 4159)], [])], [], 0, 0)
def M_X1_at : ck_Me := (4, cw_TT, cw_SG, 7, fl_X1, pl_X1, nw_X1, kl_X1, il_X1, xl_X1, cw_al, [(3 * 46 + 1, 0, 1, C_J13_bitCount_95d88), (3 * 52 + 1, 0, 1, C_X1_lowest)], [], (0, 0), gl_X1)
def I_X1_at : List (Nat × ck_I) := [(38, (([(2, (0, 3, [])), (3, (0, 4, [])), (4, (1, 5, []))], [], [], [(0, 0), (1, 0), ((-2147483648), 2147483647), ((-2147483648), 2147483647), (0, 63), ((-9223372036854775808), 9223372036854775807)], [], 0, 0), [(0, 0, 1), (2, 3, (-2147483649)), (0, 0, 1152921504606846976)])),
  (4, (([(0, (2, 1, [5])), (2, (0, 3, [])), (3, (0, 4, []))], [], [], [(0, 0), (1, 0), ((-2147483648), 2147483647), ((-2147483648), 2147483647), (0, 64)], [], 0, 0), [(0, 0, 2), (1, 4, 65), (0, 0, 1152921504606846976)]))]
def S_X1_at : ck_S := ([(0, (2, 1, [5])), (1, (0, 2, []))], [], [(0, 1000, (8, 0, [])), (0, 1001, (8, 1, [])), (0, 1002, (8, 2, []))], [(0, 0), (1, 0), ((-2147483648), 2147483647)], [], 0, 0)
theorem h_X1_at : ck_chk M_X1_at (ck_kr (mF M_X1_at) 3 1 C_X1_at) K_X1_at I_X1_at 3 52 S_X1_at = true := by decide +kernel
theorem o_X1_at : ck_ok5 C_X1_at = true := by decide +kernel
theorem a_X1_at : ck_ca cw_V RX1 cX1_at ⟨2, 0, 0, 42⟩ M_X1_at := fun _ l _ _ _ _ _ _ _ _ _ _ _ _ X hts htl hsw hnq =>
  (List.forall_mem_cons.mpr ⟨ck_cs_S (t_J13_bitCount_95d88 l) X hts htl hsw hnq ⟨rfl, rfl⟩ o_J13_bitCount_95d88 cw_good (ck_m4 tw_538 tw_539 tw_106 tw_540) hd_J13_bitCount_95d88 ⟨rfl, rfl⟩ ⟨by decide, by decide⟩, (List.forall_mem_cons.mpr ⟨ck_cs_S (t_X1_lowest l) X hts htl hsw hnq ⟨rfl, rfl⟩ o_X1_lowest cw_good (ck_m4 tw_697 tw_698 tw_97 tw_699) hd_X1_lowest ⟨rfl, rfl⟩ ⟨by decide, by decide⟩, (fun _ h => absurd h List.not_mem_nil)⟩)⟩)
theorem t_X1_at (l : Launch) : ck_met cw_V l yX1_at cX1_at 7 (some .int) ⟨2, 0, 0, 42⟩ C_X1_at :=
  ck_meth (M := M_X1_at) (rt := 1) (pre := []) false pn_X1_at rfl (fun h => by cases h) ⟨rfl, rfl, rfl, rfl, rfl⟩ ⟨rfl, rfl⟩ rfl (by decide) (by decide) (by decide) k_X1_at (tb_X1 ⟨rfl, rfl, rfl, rfl, rfl, rfl, rfl, rfl, rfl⟩) a_X1_at h_X1_at rfl
theorem hd_X2_follows : yX2_follows.cls ≠ "java/lang/invoke/MethodHandle" ∧ yX2_follows.cls ≠ "java/lang/invoke/VarHandle" ∧ (parseMethodDescriptor yX2_follows.desc).map (fun d => d.parameters.length) = some 2 := ⟨by decide, by decide, by decide +kernel⟩
theorem he_X2_follows : yX2_follows.cls ≠ "java/lang/invoke/MethodHandle" ∧ yX2_follows.cls ≠ "java/lang/invoke/VarHandle" ∧ (parseMethodDescriptor yX2_follows.desc).map (fun d => d.parameters.length + 1) = some 3 := ⟨by decide, by decide, by decide +kernel⟩
theorem pn_X2_follows : plainFor yX2_follows = true := by decide +kernel
def K_X2_follows : ck_cd := [(0, .iconst 0, 1), (1, .istore_n 3, 1), (2, .iload_n 3, 1), (3, .sipush 256, 3), (6, .if_icmp .ge 32, 3), (9, .iload_n 2, 1), (10, .aload_n 0, 1), (11, .getfield 25, 3), (14, .iload_n 3, 1), (15, .iaload, 1), (16, .iconst (-1), 1), (17, .ixor, 1), (18, .iand, 1), (19, .ifCond .ne 13, 3), (22, .aload_n 1, 1), (23, .iload_n 3, 1), (24, .invokevirtual 61, 3), (27, .ifCond .ne 5, 3), (30, .iconst 0, 1), (31, .ireturn, 1), (32, .iinc 3 1, 3), (35, .goto (-33), 3), (38, .iconst 1, 1), (39, .ireturn, 1)]
theorem k_X2_follows : ∀ x ∈ K_X2_follows, decode cX2_follows x.1 = .ok (x.2.1, x.2.2) := by decide +kernel
def C_X2_follows : ck_C := (([(2, 1, [13]), (2, 2, [1]), (0, 3, [])], [], [(0, 0), (1, 0), (1, 0), (0, 4095)], []), [([(0, 4, [])], [], [(1, 0), (1, 0), (1, 0), (1, 0), (0, 0)], []), ([(0, 4, [])], [], [(1, 0), (1, 0), (1, 0), (1, 0), (1, 1)], [])], [], 0, 0)
def M_X2_follows : ck_Me := (4, cw_TT, cw_SG, 4, fl_X2, pl_X2, nw_X2, kl_X2, il_X2, xl_X2, cw_al, [(3 * 61, 1, 2, C_X1_has)], [], (0, 0), gl_X2)
def I_X2_follows : List (Nat × ck_I) := [(2, (([(0, (2, 1, [13])), (1, (2, 2, [1])), (2, (0, 3, [])), (3, (0, 4, []))], [], [], [(0, 0), (1, 0), (1, 0), (0, 4095), (0, 256)], [], 0, 0), [(1, 4, 257), (0, 0, 1152921504606846976), (0, 0, 1152921504606846976)]))]
def S_X2_follows : ck_S := ([(0, (2, 1, [13])), (1, (2, 2, [1])), (2, (0, 3, []))], [], [(0, 1000, (8, 0, [])), (0, 1001, (8, 1, [])), (0, 1002, (8, 2, [])), (0, 1003, (8, 3, []))], [(0, 0), (1, 0), (1, 0), (0, 4095)], [], 0, 0)
theorem h_X2_follows : ck_chk M_X2_follows (ck_kr (mF M_X2_follows) 4 2 C_X2_follows) K_X2_follows I_X2_follows 4 29 S_X2_follows = true := by decide +kernel
theorem o_X2_follows : ck_ok5 C_X2_follows = true := by decide +kernel
theorem a_X2_follows : ck_ca cw_V RX2 cX2_follows ⟨1, 0, 0, 22⟩ M_X2_follows := fun _ l _ _ _ _ _ _ _ _ _ _ _ _ X hts htl hsw hnq =>
  (List.forall_mem_cons.mpr ⟨ck_cs_V (t_X1_has l) X hts htl hsw hnq ⟨rfl, rfl⟩ o_X1_has cw_good (ck_m5 tw_637 tw_552 tw_553 tw_97 tw_554) (by decide) rfl rfl rfl he_X1_has ⟨rfl, rfl⟩ ⟨by decide, by decide⟩, (fun _ h => absurd h List.not_mem_nil)⟩)
theorem t_X2_follows (l : Launch) : ck_met cw_V l yX2_follows cX2_follows 4 (some .boolean) ⟨1, 0, 0, 22⟩ C_X2_follows :=
  ck_meth (M := M_X2_follows) (rt := 2) (pre := []) false pn_X2_follows rfl (fun h => by cases h) ⟨rfl, rfl, rfl, rfl, rfl⟩ ⟨rfl, rfl⟩ rfl (by decide) (by decide) (by decide) k_X2_follows (tb_X2 ⟨rfl, rfl, rfl, rfl, rfl, rfl, rfl, rfl, rfl⟩) a_X2_follows h_X2_follows rfl
def C_X1_within_v2 : ck_C := (([(2, 1, [5]), (2, 2, [5])], [], [(0, 0), (1, 0), (1, 0)], []), [([(0, 3, [])], [], [(1, 0), (1, 0), (1, 0), (0, 0)], []), ([(0, 3, [])], [], [(1, 0), (1, 0), (1, 0), (1, 1)], [])], [], 0, 0)
def M_X1_within_v2 : ck_Me := (4, cw_TT, cw_SG, 3, fl_X1, pl_X1, nw_X1, kl_X1, il_X1, xl_X1, cw_al, [], [], (0, 0), gl_X1)
def I_X1_within_v2 : List (Nat × ck_I) := [(2, (([(0, (2, 1, [5])), (1, (2, 2, [5])), (2, (0, 3, []))], [], [], [(0, 0), (1, 0), (1, 0), (0, 64)], [], 0, 0), [(1, 3, 65), (0, 0, 1152921504606846976), (0, 0, 1152921504606846976)]))]
def S_X1_within_v2 : ck_S := ([(0, (2, 1, [5])), (1, (2, 2, [5]))], [], [(0, 1000, (8, 0, [])), (0, 1001, (8, 1, [])), (0, 1002, (8, 2, []))], [(0, 0), (1, 0), (1, 0)], [], 0, 0)
theorem h_X1_within_v2 : ck_chk M_X1_within_v2 (ck_kr (mF M_X1_within_v2) 3 2 C_X1_within_v2) K_X1_within I_X1_within_v2 3 37 S_X1_within_v2 = true := by decide +kernel
theorem o_X1_within_v2 : ck_ok5 C_X1_within_v2 = true := by decide +kernel
theorem a_X1_within_v2 : ck_ca cw_V RX1 cX1_within ⟨0, 0, 0, 0⟩ M_X1_within_v2 := fun _ _ _ _ _ _ _ _ _ _ _ _ _ _ _ _ _ _ _ _ h => absurd h List.not_mem_nil
theorem t_X1_within_v2 (l : Launch) : ck_met cw_V l yX1_within cX1_within 3 (some .boolean) ⟨0, 0, 0, 0⟩ C_X1_within_v2 :=
  ck_meth (M := M_X1_within_v2) (rt := 2) (pre := []) false pn_X1_within rfl (fun h => by cases h) ⟨rfl, rfl, rfl, rfl, rfl⟩ ⟨rfl, rfl⟩ rfl (by decide) (by decide) (by decide) k_X1_within (tb_X1 ⟨rfl, rfl, rfl, rfl, rfl, rfl, rfl, rfl, rfl⟩) a_X1_within_v2 h_X1_within_v2 rfl
def C_X1_apart_v2 : ck_C := (([(2, 1, [5]), (2, 2, [5])], [], [(0, 0), (1, 0), (1, 0)], []), [([(0, 3, [])], [], [(1, 0), (1, 0), (1, 0), (0, 0)], []), ([(0, 3, [])], [], [(1, 0), (1, 0), (1, 0), (1, 1)], [])], [], 0, 0)
def M_X1_apart_v2 : ck_Me := (4, cw_TT, cw_SG, 3, fl_X1, pl_X1, nw_X1, kl_X1, il_X1, xl_X1, cw_al, [], [], (0, 0), gl_X1)
def I_X1_apart_v2 : List (Nat × ck_I) := [(2, (([(0, (2, 1, [5])), (1, (2, 2, [5])), (2, (0, 3, []))], [], [], [(0, 0), (1, 0), (1, 0), (0, 64)], [], 0, 0), [(1, 3, 65), (0, 0, 1152921504606846976), (0, 0, 1152921504606846976)]))]
def S_X1_apart_v2 : ck_S := ([(0, (2, 1, [5])), (1, (2, 2, [5]))], [], [(0, 1000, (8, 0, [])), (0, 1001, (8, 1, [])), (0, 1002, (8, 2, []))], [(0, 0), (1, 0), (1, 0)], [], 0, 0)
theorem h_X1_apart_v2 : ck_chk M_X1_apart_v2 (ck_kr (mF M_X1_apart_v2) 3 2 C_X1_apart_v2) K_X1_apart I_X1_apart_v2 3 35 S_X1_apart_v2 = true := by decide +kernel
theorem o_X1_apart_v2 : ck_ok5 C_X1_apart_v2 = true := by decide +kernel
theorem a_X1_apart_v2 : ck_ca cw_V RX1 cX1_apart ⟨0, 0, 0, 0⟩ M_X1_apart_v2 := fun _ _ _ _ _ _ _ _ _ _ _ _ _ _ _ _ _ _ _ _ h => absurd h List.not_mem_nil
theorem t_X1_apart_v2 (l : Launch) : ck_met cw_V l yX1_apart cX1_apart 3 (some .boolean) ⟨0, 0, 0, 0⟩ C_X1_apart_v2 :=
  ck_meth (M := M_X1_apart_v2) (rt := 2) (pre := []) false pn_X1_apart rfl (fun h => by cases h) ⟨rfl, rfl, rfl, rfl, rfl⟩ ⟨rfl, rfl⟩ rfl (by decide) (by decide) (by decide) k_X1_apart (tb_X1 ⟨rfl, rfl, rfl, rfl, rfl, rfl, rfl, rfl, rfl⟩) a_X1_apart_v2 h_X1_apart_v2 rfl
theorem hd_X1_closeUp : yX1_closeUp.cls ≠ "java/lang/invoke/MethodHandle" ∧ yX1_closeUp.cls ≠ "java/lang/invoke/VarHandle" ∧ (parseMethodDescriptor yX1_closeUp.desc).map (fun d => d.parameters.length) = some 1 := ⟨by decide, by decide, by decide +kernel⟩
theorem he_X1_closeUp : yX1_closeUp.cls ≠ "java/lang/invoke/MethodHandle" ∧ yX1_closeUp.cls ≠ "java/lang/invoke/VarHandle" ∧ (parseMethodDescriptor yX1_closeUp.desc).map (fun d => d.parameters.length + 1) = some 2 := ⟨by decide, by decide, by decide +kernel⟩
theorem pn_X1_closeUp : plainFor yX1_closeUp = true := by decide +kernel
def K_X1_closeUp : ck_cd := [(0, .iconst 0, 1), (1, .istore_n 2, 1), (2, .iload_n 2, 1), (3, .iload_n 1, 1), (4, .if_icmp .ge 41, 3), (7, .iconst 0, 1), (8, .istore_n 3, 1), (9, .iload_n 3, 1), (10, .aload_n 0, 1), (11, .getfield 13, 3), (14, .arraylength, 1), (15, .if_icmp .ge 24, 3), (18, .aload_n 0, 1), (19, .getfield 13, 3), (22, .iload_n 3, 1), (23, .dup2, 1), (24, .laload, 1), (25, .aload_n 0, 1), (26, .iload_n 2, 1), (27, .iload_n 3, 1), (28, .invokevirtual 59, 3), (31, .lor, 1), (32, .lastore, 1), (33, .iinc 3 1, 3), (36, .goto (-27), 3), (39, .iinc 2 1, 3), (42, .goto (-40), 3), (45, .return_, 1)]
theorem k_X1_closeUp : ∀ x ∈ K_X1_closeUp, decode cX1_closeUp x.1 = .ok (x.2.1, x.2.2) := by decide +kernel
def C_X1_closeUp : ck_C := (([(2, 1, [5]), (0, 2, [])], [], [(0, 0), (1, 0), (12, 12)], []), [([], [], [(1, 0), (1, 0), (1, 0)], [])], [(6, 0)], 0, 0)
def M_X1_closeUp : ck_Me := (4, cw_TT, cw_SG, 4, fl_X1, pl_X1, nw_X1, kl_X1, il_X1, xl_X1, cw_al, [(3 * 59, 5, 3, C_X1_raised)], [(6, 0)], (0, 0), gl_X1)
def I_X1_closeUp : List (Nat × ck_I) := [(2, (([(0, (2, 1, [5])), (1, (0, 2, [])), (2, (0, 3, []))], [], [], [(0, 0), (1, 0), (12, 12), (0, 12)], [], 0, 0), [(1, 3, 13), (0, 0, 1152921504606846976), (0, 0, 1152921504606846976)])),
  (9, (([(0, (2, 1, [5])), (1, (0, 2, [])), (2, (0, 3, [])), (3, (0, 4, []))], [], [], [(0, 0), (1, 0), (12, 12), (0, 11), (0, 64)], [], 0, 0), [(1, 3, 13), (1, 4, 65), (0, 0, 1152921504606846976)]))]
def S_X1_closeUp : ck_S := ([(0, (2, 1, [5])), (1, (0, 2, []))], [], [(0, 1000, (8, 0, [])), (0, 1001, (8, 1, [])), (0, 1002, (8, 2, []))], [(0, 0), (1, 0), (12, 12)], [], 0, 0)
theorem h_X1_closeUp : ck_chk M_X1_closeUp (ck_kr (mF M_X1_closeUp) 3 0 C_X1_closeUp) K_X1_closeUp I_X1_closeUp 3 33 S_X1_closeUp = true := by decide +kernel
theorem o_X1_closeUp : ck_ok5 C_X1_closeUp = true := by decide +kernel
theorem a_X1_closeUp : ck_ca cw_V RX1 cX1_closeUp ⟨1, 0, 0, 23⟩ M_X1_closeUp := fun _ l _ _ _ _ _ _ _ _ _ _ _ _ X hts htl hsw hnq =>
  (List.forall_mem_cons.mpr ⟨ck_cs_V (t_X1_raised l) X hts htl hsw hnq ⟨rfl, rfl⟩ o_X1_raised cw_good (ck_m5 tw_747 tw_749 tw_12 tw_97 tw_750) (by decide) rfl rfl rfl he_X1_raised ⟨rfl, rfl⟩ ⟨by decide, by decide⟩, (fun _ h => absurd h List.not_mem_nil)⟩)
theorem t_X1_closeUp (l : Launch) : ck_met cw_V l yX1_closeUp cX1_closeUp 4 none ⟨1, 0, 0, 23⟩ C_X1_closeUp :=
  ck_meth (M := M_X1_closeUp) (rt := 0) (pre := []) false pn_X1_closeUp rfl (fun h => by cases h) ⟨rfl, rfl, rfl, rfl, rfl⟩ ⟨rfl, rfl⟩ rfl (by decide) (by decide) (by decide) k_X1_closeUp (tb_X1 ⟨rfl, rfl, rfl, rfl, rfl, rfl, rfl, rfl, rfl⟩) a_X1_closeUp h_X1_closeUp rfl
theorem hd_X1_isAll : yX1_isAll.cls ≠ "java/lang/invoke/MethodHandle" ∧ yX1_isAll.cls ≠ "java/lang/invoke/VarHandle" ∧ (parseMethodDescriptor yX1_isAll.desc).map (fun d => d.parameters.length) = some 0 := ⟨by decide, by decide, by decide +kernel⟩
theorem he_X1_isAll : yX1_isAll.cls ≠ "java/lang/invoke/MethodHandle" ∧ yX1_isAll.cls ≠ "java/lang/invoke/VarHandle" ∧ (parseMethodDescriptor yX1_isAll.desc).map (fun d => d.parameters.length + 1) = some 1 := ⟨by decide, by decide, by decide +kernel⟩
theorem pn_X1_isAll : plainFor yX1_isAll = true := by decide +kernel
def K_X1_isAll : ck_cd := [(0, .iconst 0, 1), (1, .istore_n 1, 1), (2, .iload_n 1, 1), (3, .aload_n 0, 1), (4, .getfield 13, 3), (7, .arraylength, 1), (8, .if_icmp .ge 24, 3), (11, .aload_n 0, 1), (12, .getfield 13, 3), (15, .iload_n 1, 1), (16, .laload, 1), (17, .ldc2_w 25, 3), (20, .lcmp, 1), (21, .ifCond .eq 5, 3), (24, .iconst 0, 1), (25, .ireturn, 1), (26, .iinc 1 1, 3), (29, .goto (-27), 3), (32, .iconst 1, 1), (33, .ireturn, 1)]
theorem k_X1_isAll : ∀ x ∈ K_X1_isAll, decode cX1_isAll x.1 = .ok (x.2.1, x.2.2) := by decide +kernel
def C_X1_isAll : ck_C := (([(2, 1, [1])], [], [(0, 0), (1, 0)], []), [([(0, 2, [])], [], [(1, 0), (1, 0), (0, 0)], []), ([(0, 2, [])], [], [(1, 0), (1, 0), (1, 1)], [])], [], 0, 0)
def M_X1_isAll : ck_Me := (4, cw_TT, cw_SG, 2, fl_X1, pl_X1, nw_X1, kl_X1, il_X1, xl_X1, cw_al, [], [], (0, 0), gl_X1)
def I_X1_isAll : List (Nat × ck_I) := [(2, (([(0, (2, 1, [1])), (1, (0, 2, []))], [], [], [(0, 0), (1, 0), (0, 5)], [], 0, 0), [(1, 2, 6), (0, 0, 1152921504606846976), (0, 0, 1152921504606846976)]))]
def S_X1_isAll : ck_S := ([(0, (2, 1, [1]))], [], [(0, 1000, (8, 0, [])), (0, 1001, (8, 1, []))], [(0, 0), (1, 0)], [], 0, 0)
theorem h_X1_isAll : ck_chk M_X1_isAll (ck_kr (mF M_X1_isAll) 2 2 C_X1_isAll) K_X1_isAll I_X1_isAll 2 25 S_X1_isAll = true := by decide +kernel
theorem o_X1_isAll : ck_ok5 C_X1_isAll = true := by decide +kernel
theorem a_X1_isAll : ck_ca cw_V RX1 cX1_isAll ⟨0, 0, 0, 0⟩ M_X1_isAll := fun _ _ _ _ _ _ _ _ _ _ _ _ _ _ _ _ _ _ _ _ h => absurd h List.not_mem_nil
theorem t_X1_isAll (l : Launch) : ck_met cw_V l yX1_isAll cX1_isAll 2 (some .boolean) ⟨0, 0, 0, 0⟩ C_X1_isAll :=
  ck_meth (M := M_X1_isAll) (rt := 2) (pre := []) false pn_X1_isAll rfl (fun h => by cases h) ⟨rfl, rfl, rfl, rfl, rfl⟩ ⟨rfl, rfl⟩ rfl (by decide) (by decide) (by decide) k_X1_isAll (tb_X1 ⟨rfl, rfl, rfl, rfl, rfl, rfl, rfl, rfl, rfl⟩) a_X1_isAll h_X1_isAll rfl
theorem hd_X2_abandon : yX2_abandon.cls ≠ "java/lang/invoke/MethodHandle" ∧ yX2_abandon.cls ≠ "java/lang/invoke/VarHandle" ∧ (parseMethodDescriptor yX2_abandon.desc).map (fun d => d.parameters.length) = some 1 := ⟨by decide, by decide, by decide +kernel⟩
theorem he_X2_abandon : yX2_abandon.cls ≠ "java/lang/invoke/MethodHandle" ∧ yX2_abandon.cls ≠ "java/lang/invoke/VarHandle" ∧ (parseMethodDescriptor yX2_abandon.desc).map (fun d => d.parameters.length + 1) = some 2 := ⟨by decide, by decide, by decide +kernel⟩
theorem pn_X2_abandon : plainFor yX2_abandon = true := by decide +kernel
def K_X2_abandon : ck_cd := [(0, .iconst 0, 1), (1, .istore_n 2, 1), (2, .iload_n 2, 1), (3, .aload_n 0, 1), (4, .getfield 58, 3), (7, .if_icmp .ge 36, 3), (10, .aload_n 0, 1), (11, .iload_n 2, 1), (12, .invokevirtual 68, 3), (15, .astore_n 3, 1), (16, .iload_n 1, 1), (17, .iload_n 2, 1), (18, .ishr, 1), (19, .iconst 1, 1), (20, .iand, 1), (21, .iconst 1, 1), (22, .if_icmp .ne 15, 3), (25, .aload_n 3, 1), (26, .ifnull 11, 3), (29, .aload_n 3, 1), (30, .aload_n 0, 1), (31, .getfield 15, 3), (34, .putfield 84, 3), (37, .iinc 2 1, 3), (40, .goto (-38), 3), (43, .return_, 1)]
theorem k_X2_abandon : ∀ x ∈ K_X2_abandon, decode cX2_abandon x.1 = .ok (x.2.1, x.2.2) := by decide +kernel
def C_X2_abandon : ck_C := (([(2, 1, [13]), (0, 2, [])], [], [(0, 0), (1, 0), ((-1), 4159)], []), [([], [], [(1, 0), (1, 0), (1, 0)], [])], [(7, 6)], 0, 0)
def M_X2_abandon : ck_Me := (4, cw_TT, cw_SG, 4, fl_X2, pl_X2, nw_X2, kl_X2, il_X2, xl_X2, cw_al, [(3 * 68, 13, 2, C_X2_entryAt)], [(7, 6)], (0, 0), gl_X2)
def I_X2_abandon : List (Nat × ck_I) := [(2, (([(0, (2, 1, [13])), (1, (0, 2, [])), (2, (0, 3, []))], [], [], [(0, 0), (1, 0), ((-1), 4159), (0, 12)], [], 0, 0), [(1, 3, 13), (0, 0, 1152921504606846976), (0, 0, 1152921504606846976)]))]
def S_X2_abandon : ck_S := ([(0, (2, 1, [13])), (1, (0, 2, []))], [], [(0, 1000, (8, 0, [])), (0, 1001, (8, 1, [])), (0, 1002, (8, 2, []))], [(0, 0), (1, 0), ((-1), 4159)], [], 0, 0)
theorem h_X2_abandon : ck_chk M_X2_abandon (ck_kr (mF M_X2_abandon) 3 0 C_X2_abandon) K_X2_abandon I_X2_abandon 3 31 S_X2_abandon = true := by decide +kernel
theorem o_X2_abandon : ck_ok5 C_X2_abandon = true := by decide +kernel
theorem a_X2_abandon : ck_ca cw_V RX2 cX2_abandon ⟨1, 0, 0, 21⟩ M_X2_abandon := fun _ l _ _ _ _ _ _ _ _ _ _ _ _ X hts htl hsw hnq =>
  (List.forall_mem_cons.mpr ⟨ck_cs_V (t_X2_entryAt l) X hts htl hsw hnq ⟨rfl, rfl⟩ o_X2_entryAt cw_good (ck_m5 tw_646 tw_647 tw_648 tw_99 tw_649) (by decide) rfl rfl rfl he_X2_entryAt ⟨rfl, rfl⟩ ⟨by decide, by decide⟩, (fun _ h => absurd h List.not_mem_nil)⟩)
theorem t_X2_abandon (l : Launch) : ck_met cw_V l yX2_abandon cX2_abandon 4 none ⟨1, 0, 0, 21⟩ C_X2_abandon :=
  ck_meth (M := M_X2_abandon) (rt := 0) (pre := []) false pn_X2_abandon rfl (fun h => by cases h) ⟨rfl, rfl, rfl, rfl, rfl⟩ ⟨rfl, rfl⟩ rfl (by decide) (by decide) (by decide) k_X2_abandon (tb_X2 ⟨rfl, rfl, rfl, rfl, rfl, rfl, rfl, rfl, rfl⟩) a_X2_abandon h_X2_abandon rfl
theorem hd_X1_isEmpty : yX1_isEmpty.cls ≠ "java/lang/invoke/MethodHandle" ∧ yX1_isEmpty.cls ≠ "java/lang/invoke/VarHandle" ∧ (parseMethodDescriptor yX1_isEmpty.desc).map (fun d => d.parameters.length) = some 0 := ⟨by decide, by decide, by decide +kernel⟩
theorem he_X1_isEmpty : yX1_isEmpty.cls ≠ "java/lang/invoke/MethodHandle" ∧ yX1_isEmpty.cls ≠ "java/lang/invoke/VarHandle" ∧ (parseMethodDescriptor yX1_isEmpty.desc).map (fun d => d.parameters.length + 1) = some 1 := ⟨by decide, by decide, by decide +kernel⟩
theorem pn_X1_isEmpty : plainFor yX1_isEmpty = true := by decide +kernel
def K_X1_isEmpty : ck_cd := [(0, .iconst 0, 1), (1, .istore_n 1, 1), (2, .iload_n 1, 1), (3, .aload_n 0, 1), (4, .getfield 13, 3), (7, .arraylength, 1), (8, .if_icmp .ge 22, 3), (11, .aload_n 0, 1), (12, .getfield 13, 3), (15, .iload_n 1, 1), (16, .laload, 1), (17, .lconst 0, 1), (18, .lcmp, 1), (19, .ifCond .eq 5, 3), (22, .iconst 0, 1), (23, .ireturn, 1), (24, .iinc 1 1, 3), (27, .goto (-25), 3), (30, .iconst 1, 1), (31, .ireturn, 1)]
theorem k_X1_isEmpty : ∀ x ∈ K_X1_isEmpty, decode cX1_isEmpty x.1 = .ok (x.2.1, x.2.2) := by decide +kernel
def C_X1_isEmpty : ck_C := (([(2, 1, [1])], [], [(0, 0), (1, 0)], []), [([(0, 2, [])], [], [(1, 0), (1, 0), (0, 0)], []), ([(0, 2, [])], [], [(1, 0), (1, 0), (1, 1)], [])], [], 0, 0)
def M_X1_isEmpty : ck_Me := (4, cw_TT, cw_SG, 2, fl_X1, pl_X1, nw_X1, kl_X1, il_X1, xl_X1, cw_al, [], [], (0, 0), gl_X1)
def I_X1_isEmpty : List (Nat × ck_I) := [(2, (([(0, (2, 1, [1])), (1, (0, 2, []))], [], [], [(0, 0), (1, 0), (0, 5)], [], 0, 0), [(1, 2, 6), (0, 0, 1152921504606846976), (0, 0, 1152921504606846976)]))]
def S_X1_isEmpty : ck_S := ([(0, (2, 1, [1]))], [], [(0, 1000, (8, 0, [])), (0, 1001, (8, 1, []))], [(0, 0), (1, 0)], [], 0, 0)
theorem h_X1_isEmpty : ck_chk M_X1_isEmpty (ck_kr (mF M_X1_isEmpty) 2 2 C_X1_isEmpty) K_X1_isEmpty I_X1_isEmpty 2 25 S_X1_isEmpty = true := by decide +kernel
theorem o_X1_isEmpty : ck_ok5 C_X1_isEmpty = true := by decide +kernel
theorem a_X1_isEmpty : ck_ca cw_V RX1 cX1_isEmpty ⟨0, 0, 0, 0⟩ M_X1_isEmpty := fun _ _ _ _ _ _ _ _ _ _ _ _ _ _ _ _ _ _ _ _ h => absurd h List.not_mem_nil
theorem t_X1_isEmpty (l : Launch) : ck_met cw_V l yX1_isEmpty cX1_isEmpty 2 (some .boolean) ⟨0, 0, 0, 0⟩ C_X1_isEmpty :=
  ck_meth (M := M_X1_isEmpty) (rt := 2) (pre := []) false pn_X1_isEmpty rfl (fun h => by cases h) ⟨rfl, rfl, rfl, rfl, rfl⟩ ⟨rfl, rfl⟩ rfl (by decide) (by decide) (by decide) k_X1_isEmpty (tb_X1 ⟨rfl, rfl, rfl, rfl, rfl, rfl, rfl, rfl, rfl⟩) a_X1_isEmpty h_X1_isEmpty rfl
theorem hd_X2_recovers : yX2_recovers.cls ≠ "java/lang/invoke/MethodHandle" ∧ yX2_recovers.cls ≠ "java/lang/invoke/VarHandle" ∧ (parseMethodDescriptor yX2_recovers.desc).map (fun d => d.parameters.length) = some 3 := ⟨by decide, by decide, by decide +kernel⟩
theorem he_X2_recovers : yX2_recovers.cls ≠ "java/lang/invoke/MethodHandle" ∧ yX2_recovers.cls ≠ "java/lang/invoke/VarHandle" ∧ (parseMethodDescriptor yX2_recovers.desc).map (fun d => d.parameters.length + 1) = some 4 := ⟨by decide, by decide, by decide +kernel⟩
theorem pn_X2_recovers : plainFor yX2_recovers = true := by decide +kernel
def K_X2_recovers : ck_cd := [(0, .iload_n 2, 1), (1, .iload_n 3, 1), (2, .iconst (-1), 1), (3, .ixor, 1), (4, .iand, 1), (5, .istore 4, 2), (7, .iconst 0, 1), (8, .istore 5, 2), (10, .iload 5, 2), (12, .sipush 256, 3), (15, .if_icmp .ge 49, 3), (18, .aload_n 1, 1), (19, .iload 5, 2), (21, .invokevirtual 61, 3), (24, .ifCond .eq 34, 3), (27, .iload 4, 2), (29, .aload_n 0, 1), (30, .getfield 25, 3), (33, .iload 5, 2), (35, .iaload, 1), (36, .iconst (-1), 1), (37, .ixor, 1), (38, .iand, 1), (39, .ifCond .ne 19, 3), (42, .iload_n 2, 1), (43, .aload_n 0, 1), (44, .getfield 25, 3), (47, .iload 5, 2), (49, .iaload, 1), (50, .iconst (-1), 1), (51, .ixor, 1), (52, .iand, 1), (53, .ifCond .eq 5, 3), (56, .iconst 0, 1), (57, .ireturn, 1), (58, .iinc 5 1, 3), (61, .goto (-51), 3), (64, .iconst 1, 1), (65, .ireturn, 1)]
theorem k_X2_recovers : ∀ x ∈ K_X2_recovers, decode cX2_recovers x.1 = .ok (x.2.1, x.2.2) := by decide +kernel
def C_X2_recovers : ck_C := (([(2, 1, [13]), (2, 2, [1]), (0, 3, []), (0, 4, [])], [], [(0, 0), (1, 0), (1, 0), (0, 4095), ((-1), 4159)], []), [([(0, 5, [])], [], [(1, 0), (1, 0), (1, 0), (1, 0), (1, 0), (0, 0)], []), ([(0, 5, [])], [], [(1, 0), (1, 0), (1, 0), (1, 0), (1, 0), (1, 1)], [])], [], 0, 0)
def M_X2_recovers : ck_Me := (4, cw_TT, cw_SG, 6, fl_X2, pl_X2, nw_X2, kl_X2, il_X2, xl_X2, cw_al, [(3 * 61, 1, 2, C_X1_has)], [], (0, 0), gl_X2)
def I_X2_recovers : List (Nat × ck_I) := [(10, (([(0, (2, 1, [13])), (1, (2, 2, [1])), (2, (0, 3, [])), (4, (0, 5, [])), (5, (0, 6, []))], [], [], [(0, 0), (1, 0), (1, 0), (0, 4095), ((-1), 4159), (0, 4095), (0, 256)], [], 0, 0), [(1, 6, 257), (0, 0, 1152921504606846976), (0, 0, 1152921504606846976)]))]
def S_X2_recovers : ck_S := ([(0, (2, 1, [13])), (1, (2, 2, [1])), (2, (0, 3, [])), (3, (0, 4, []))], [], [(0, 1000, (8, 0, [])), (0, 1001, (8, 1, [])), (0, 1002, (8, 2, [])), (0, 1003, (8, 3, [])), (0, 1004, (8, 4, []))], [(0, 0), (1, 0), (1, 0), (0, 4095), ((-1), 4159)], [], 0, 0)
theorem h_X2_recovers : ck_chk M_X2_recovers (ck_kr (mF M_X2_recovers) 5 2 C_X2_recovers) K_X2_recovers I_X2_recovers 5 44 S_X2_recovers = true := by decide +kernel
theorem o_X2_recovers : ck_ok5 C_X2_recovers = true := by decide +kernel
theorem a_X2_recovers : ck_ca cw_V RX2 cX2_recovers ⟨1, 0, 0, 22⟩ M_X2_recovers := fun _ l _ _ _ _ _ _ _ _ _ _ _ _ X hts htl hsw hnq =>
  (List.forall_mem_cons.mpr ⟨ck_cs_V (t_X1_has l) X hts htl hsw hnq ⟨rfl, rfl⟩ o_X1_has cw_good (ck_m5 tw_637 tw_552 tw_553 tw_97 tw_554) (by decide) rfl rfl rfl he_X1_has ⟨rfl, rfl⟩ ⟨by decide, by decide⟩, (fun _ h => absurd h List.not_mem_nil)⟩)
theorem t_X2_recovers (l : Launch) : ck_met cw_V l yX2_recovers cX2_recovers 6 (some .boolean) ⟨1, 0, 0, 22⟩ C_X2_recovers :=
  ck_meth (M := M_X2_recovers) (rt := 2) (pre := []) false pn_X2_recovers rfl (fun h => by cases h) ⟨rfl, rfl, rfl, rfl, rfl⟩ ⟨rfl, rfl⟩ rfl (by decide) (by decide) (by decide) k_X2_recovers (tb_X2 ⟨rfl, rfl, rfl, rfl, rfl, rfl, rfl, rfl, rfl⟩) a_X2_recovers h_X2_recovers rfl
theorem hd_X9_isFull : yX9_isFull.cls ≠ "java/lang/invoke/MethodHandle" ∧ yX9_isFull.cls ≠ "java/lang/invoke/VarHandle" ∧ (parseMethodDescriptor yX9_isFull.desc).map (fun d => d.parameters.length) = some 0 := ⟨by decide, by decide, by decide +kernel⟩
theorem he_X9_isFull : yX9_isFull.cls ≠ "java/lang/invoke/MethodHandle" ∧ yX9_isFull.cls ≠ "java/lang/invoke/VarHandle" ∧ (parseMethodDescriptor yX9_isFull.desc).map (fun d => d.parameters.length + 1) = some 1 := ⟨by decide, by decide, by decide +kernel⟩
theorem pn_X9_isFull : plainFor yX9_isFull = true := by decide +kernel
def K_X9_isFull : ck_cd := [(0, .aload_n 0, 1), (1, .getfield 59, 3), (4, .aload_n 0, 1), (5, .getfield 22, 3), (8, .arraylength, 1), (9, .if_icmp .lt 7, 3), (12, .iconst 1, 1), (13, .goto 4, 3), (16, .iconst 0, 1), (17, .ireturn, 1)]
theorem k_X9_isFull : ∀ x ∈ K_X9_isFull, decode cX9_isFull x.1 = .ok (x.2.1, x.2.2) := by decide +kernel
def C_X9_isFull : ck_C := (([(2, 1, [14])], [], [(0, 0), (1, 0)], []), [([(0, 2, [])], [], [(1, 0), (1, 0), (1, 1)], []), ([(0, 2, [])], [], [(1, 0), (1, 0), (0, 0)], [])], [], 0, 0)
def M_X9_isFull : ck_Me := (4, cw_TT, cw_SG, 1, fl_X9, pl_X9, nw_X9, kl_X9, il_X9, xl_X9, cw_al, [], [], (0, 0), gl_X9)
def I_X9_isFull : List (Nat × ck_I) := []
def S_X9_isFull : ck_S := ([(0, (2, 1, [14]))], [], [(0, 1000, (8, 0, [])), (0, 1001, (8, 1, []))], [(0, 0), (1, 0)], [], 0, 0)
theorem h_X9_isFull : ck_chk M_X9_isFull (ck_kr (mF M_X9_isFull) 2 2 C_X9_isFull) K_X9_isFull I_X9_isFull 2 15 S_X9_isFull = true := by decide +kernel
theorem o_X9_isFull : ck_ok5 C_X9_isFull = true := by decide +kernel
theorem a_X9_isFull : ck_ca cw_V RX9 cX9_isFull ⟨0, 0, 0, 0⟩ M_X9_isFull := fun _ _ _ _ _ _ _ _ _ _ _ _ _ _ _ _ _ _ _ _ h => absurd h List.not_mem_nil
theorem t_X9_isFull (l : Launch) : ck_met cw_V l yX9_isFull cX9_isFull 1 (some .boolean) ⟨0, 0, 0, 0⟩ C_X9_isFull :=
  ck_meth (M := M_X9_isFull) (rt := 2) (pre := []) false pn_X9_isFull rfl (fun h => by cases h) ⟨rfl, rfl, rfl, rfl, rfl⟩ ⟨rfl, rfl⟩ rfl (by decide) (by decide) (by decide) k_X9_isFull (tb_X9 ⟨rfl, rfl, rfl, rfl, rfl, rfl, rfl, rfl, rfl⟩) a_X9_isFull h_X9_isFull rfl
def C_X1_sharing_v2 : ck_C := (([(2, 1, [3]), (0, 2, [])], [], [(0, 0), (1, 0), ((-2147483648), 2147483647)], []), [([(0, 3, [])], [], [(1, 0), (1, 0), (1, 0), ((-2147483648), 2147483647)], [])], [], 0, 0)
def M_X1_sharing_v2 : ck_Me := (4, cw_TT, cw_SG, 4, fl_X1, pl_X1, nw_X1, kl_X1, il_X1, xl_X1, cw_al, [(3 * 46 + 1, 0, 1, C_J13_bitCount_95d88)], [], (0, 0), gl_X1)
def I_X1_sharing_v2 : List (Nat × ck_I) := [(4, (([(0, (2, 1, [3])), (1, (0, 2, [])), (2, (0, 3, [])), (3, (0, 4, []))], [], [], [(0, 0), (1, 0), ((-2147483648), 2147483647), ((-2147483648), 2147483647), (0, 16)], [], 0, 0), [(1, 4, 17), (0, 0, 1152921504606846976), (0, 0, 1152921504606846976)]))]
def S_X1_sharing_v2 : ck_S := ([(0, (2, 1, [3])), (1, (0, 2, []))], [], [(0, 1000, (8, 0, [])), (0, 1001, (8, 1, [])), (0, 1002, (8, 2, []))], [(0, 0), (1, 0), ((-2147483648), 2147483647)], [], 0, 0)
theorem h_X1_sharing_v2 : ck_chk M_X1_sharing_v2 (ck_kr (mF M_X1_sharing_v2) 3 1 C_X1_sharing_v2) K_X1_sharing I_X1_sharing_v2 3 54 S_X1_sharing_v2 = true := by decide +kernel
theorem o_X1_sharing_v2 : ck_ok5 C_X1_sharing_v2 = true := by decide +kernel
theorem a_X1_sharing_v2 : ck_ca cw_V RX1 cX1_sharing ⟨1, 0, 0, 21⟩ M_X1_sharing_v2 := fun _ l _ _ _ _ _ _ _ _ _ _ _ _ X hts htl hsw hnq =>
  (List.forall_mem_cons.mpr ⟨ck_cs_S (t_J13_bitCount_95d88 l) X hts htl hsw hnq ⟨rfl, rfl⟩ o_J13_bitCount_95d88 cw_good (ck_m4 tw_538 tw_539 tw_106 tw_540) hd_J13_bitCount_95d88 ⟨rfl, rfl⟩ ⟨by decide, by decide⟩, (fun _ h => absurd h List.not_mem_nil)⟩)
theorem t_X1_sharing_v2 (l : Launch) : ck_met cw_V l yX1_sharing cX1_sharing 4 (some .int) ⟨1, 0, 0, 21⟩ C_X1_sharing_v2 :=
  ck_meth (M := M_X1_sharing_v2) (rt := 1) (pre := []) false pn_X1_sharing rfl (fun h => by cases h) ⟨rfl, rfl, rfl, rfl, rfl⟩ ⟨rfl, rfl⟩ rfl (by decide) (by decide) (by decide) k_X1_sharing (tb_X1 ⟨rfl, rfl, rfl, rfl, rfl, rfl, rfl, rfl, rfl⟩) a_X1_sharing_v2 h_X1_sharing_v2 rfl
theorem hd_X9_ruleAt : yX9_ruleAt.cls ≠ "java/lang/invoke/MethodHandle" ∧ yX9_ruleAt.cls ≠ "java/lang/invoke/VarHandle" ∧ (parseMethodDescriptor yX9_ruleAt.desc).map (fun d => d.parameters.length) = some 1 := ⟨by decide, by decide, by decide +kernel⟩
theorem he_X9_ruleAt : yX9_ruleAt.cls ≠ "java/lang/invoke/MethodHandle" ∧ yX9_ruleAt.cls ≠ "java/lang/invoke/VarHandle" ∧ (parseMethodDescriptor yX9_ruleAt.desc).map (fun d => d.parameters.length + 1) = some 2 := ⟨by decide, by decide, by decide +kernel⟩
theorem pn_X9_ruleAt : plainFor yX9_ruleAt = true := by decide +kernel
def K_X9_ruleAt : ck_cd := [(0, .iload_n 1, 1), (1, .ifCond .lt 29, 3), (4, .iload_n 1, 1), (5, .aload_n 0, 1), (6, .getfield 59, 3), (9, .if_icmp .ge 21, 3), (12, .iload_n 1, 1), (13, .aload_n 0, 1), (14, .getfield 22, 3), (17, .arraylength, 1), (18, .if_icmp .ge 12, 3), (21, .aload_n 0, 1), (22, .getfield 22, 3), (25, .iload_n 1, 1), (26, .aaload, 1), (27, .goto 4, 3), (30, .aconst_null, 1), (31, .areturn, 1)]
theorem k_X9_ruleAt : ∀ x ∈ K_X9_ruleAt, decode cX9_ruleAt x.1 = .ok (x.2.1, x.2.2) := by decide +kernel
def C_X9_ruleAt : ck_C := (([(2, 1, [14]), (0, 2, [])], [], [(0, 0), (1, 0), ((-2147483648), 2147483647)], []), [([(3, 3, [8, 9, 10])], [], [(1, 0), (1, 0), (1, 0), (1, 0)], [(2, 0, 9), (0, 2, 0)]), ([(4, 3, [])], [], [(1, 0), (1, 0), (1, 0), (1, 0)], [])], [], 0, 0)
def M_X9_ruleAt : ck_Me := (4, cw_TT, cw_SG, 2, fl_X9, pl_X9, nw_X9, kl_X9, il_X9, xl_X9, cw_al, [], [], (0, 0), gl_X9)
def I_X9_ruleAt : List (Nat × ck_I) := []
def S_X9_ruleAt : ck_S := ([(0, (2, 1, [14])), (1, (0, 2, []))], [], [(0, 1000, (8, 0, [])), (0, 1001, (8, 1, [])), (0, 1002, (8, 2, []))], [(0, 0), (1, 0), ((-2147483648), 2147483647)], [], 0, 0)
theorem h_X9_ruleAt : ck_chk M_X9_ruleAt (ck_kr (mF M_X9_ruleAt) 3 4 C_X9_ruleAt) K_X9_ruleAt I_X9_ruleAt 3 23 S_X9_ruleAt = true := by decide +kernel
theorem o_X9_ruleAt : ck_ok5 C_X9_ruleAt = true := by decide +kernel
theorem a_X9_ruleAt : ck_ca cw_V RX9 cX9_ruleAt ⟨0, 0, 0, 0⟩ M_X9_ruleAt := fun _ _ _ _ _ _ _ _ _ _ _ _ _ _ _ _ _ _ _ _ h => absurd h List.not_mem_nil
theorem t_X9_ruleAt (l : Launch) : ck_met cw_V l yX9_ruleAt cX9_ruleAt 2 (some (.object "ReasonDesk$Rule")) ⟨0, 0, 0, 0⟩ C_X9_ruleAt :=
  ck_meth (M := M_X9_ruleAt) (rt := 4) (pre := []) false pn_X9_ruleAt rfl (fun h => by cases h) ⟨rfl, rfl, rfl, rfl, rfl⟩ ⟨rfl, rfl⟩ ⟨_, rfl, Or.inl ⟨_, rfl⟩⟩ (by decide) (by decide) (by decide) k_X9_ruleAt (tb_X9 ⟨rfl, rfl, rfl, rfl, rfl, rfl, rfl, rfl, rfl⟩) a_X9_ruleAt h_X9_ruleAt rfl
theorem hd_X9_settle : yX9_settle.cls ≠ "java/lang/invoke/MethodHandle" ∧ yX9_settle.cls ≠ "java/lang/invoke/VarHandle" ∧ (parseMethodDescriptor yX9_settle.desc).map (fun d => d.parameters.length) = some 1 := ⟨by decide, by decide, by decide +kernel⟩
theorem he_X9_settle : yX9_settle.cls ≠ "java/lang/invoke/MethodHandle" ∧ yX9_settle.cls ≠ "java/lang/invoke/VarHandle" ∧ (parseMethodDescriptor yX9_settle.desc).map (fun d => d.parameters.length + 1) = some 2 := ⟨by decide, by decide, by decide +kernel⟩
theorem pn_X9_settle : plainFor yX9_settle = true := by decide +kernel
def K_X9_settle : ck_cd := [(0, .aload_n 1, 1), (1, .invokevirtual 69, 3), (4, .istore_n 2, 1), (5, .iload_n 2, 1), (6, .aload_n 0, 1), (7, .getfield 52, 3), (10, .if_icmp .ne 4, 3), (13, .return_, 1), (14, .aload_n 0, 1), (15, .iload_n 2, 1), (16, .putfield 52, 3), (19, .aload_n 0, 1), (20, .iconst (-1), 1), (21, .putfield 56, 3), (24, .aload_n 1, 1), (25, .iload_n 2, 1), (26, .aload_n 0, 1), (27, .getfield 14, 3), (30, .invokevirtual 75, 3), (33, .return_, 1)]
theorem k_X9_settle : ∀ x ∈ K_X9_settle, decode cX9_settle x.1 = .ok (x.2.1, x.2.2) := by decide +kernel
def C_X9_settle : ck_C := (([(2, 1, [14]), (2, 2, [13])], [], [(0, 0), (1, 0), (1, 0)], []), [([], [], [(1, 0), (1, 0), (1, 0)], [])], [(2, 0), (14, 10), (14, 11)], 0, 0)
def M_X9_settle : ck_Me := (4, cw_TT, cw_SG, 3, fl_X9, pl_X9, nw_X9, kl_X9, il_X9, xl_X9, cw_al, [(3 * 69, 13, 1, C_X2_inView), (3 * 75, 13, 3, C_X2_gather)], [(2, 0), (14, 10), (14, 11)], (0, 0), gl_X9)
def I_X9_settle : List (Nat × ck_I) := []
def S_X9_settle : ck_S := ([(0, (2, 1, [14])), (1, (2, 2, [13]))], [], [(0, 1000, (8, 0, [])), (0, 1001, (8, 1, [])), (0, 1002, (8, 2, []))], [(0, 0), (1, 0), (1, 0)], [], 0, 0)
theorem h_X9_settle : ck_chk M_X9_settle (ck_kr (mF M_X9_settle) 3 0 C_X9_settle) K_X9_settle I_X9_settle 3 25 S_X9_settle = true := by decide +kernel
theorem o_X9_settle : ck_ok5 C_X9_settle = true := by decide +kernel
theorem a_X9_settle : ck_ca cw_V RX9 cX9_settle ⟨3, 0, 0, 67⟩ M_X9_settle := fun _ l _ _ _ _ _ _ _ _ _ _ _ _ X hts htl hsw hnq =>
  (List.forall_mem_cons.mpr ⟨ck_cs_V (t_X2_inView l) X hts htl hsw hnq ⟨rfl, rfl⟩ o_X2_inView cw_good (ck_m5 tw_936 tw_643 tw_644 tw_99 tw_645) (by decide) rfl rfl rfl he_X2_inView ⟨rfl, rfl⟩ ⟨by decide, by decide⟩, (List.forall_mem_cons.mpr ⟨ck_cs_V (t_X2_gather l) X hts htl hsw hnq ⟨rfl, rfl⟩ o_X2_gather cw_good (ck_m5 tw_937 tw_727 tw_728 tw_99 tw_729) (by decide) rfl rfl rfl he_X2_gather ⟨rfl, rfl⟩ ⟨by decide, by decide⟩, (fun _ h => absurd h List.not_mem_nil)⟩)⟩)
theorem t_X9_settle (l : Launch) : ck_met cw_V l yX9_settle cX9_settle 3 none ⟨3, 0, 0, 67⟩ C_X9_settle :=
  ck_meth (M := M_X9_settle) (rt := 0) (pre := []) false pn_X9_settle rfl (fun h => by cases h) ⟨rfl, rfl, rfl, rfl, rfl⟩ ⟨rfl, rfl⟩ rfl (by decide) (by decide) (by decide) k_X9_settle (tb_X9 ⟨rfl, rfl, rfl, rfl, rfl, rfl, rfl, rfl, rfl⟩) a_X9_settle h_X9_settle rfl
theorem hd_X1_meetsBut : yX1_meetsBut.cls ≠ "java/lang/invoke/MethodHandle" ∧ yX1_meetsBut.cls ≠ "java/lang/invoke/VarHandle" ∧ (parseMethodDescriptor yX1_meetsBut.desc).map (fun d => d.parameters.length) = some 2 := ⟨by decide, by decide, by decide +kernel⟩
theorem he_X1_meetsBut : yX1_meetsBut.cls ≠ "java/lang/invoke/MethodHandle" ∧ yX1_meetsBut.cls ≠ "java/lang/invoke/VarHandle" ∧ (parseMethodDescriptor yX1_meetsBut.desc).map (fun d => d.parameters.length + 1) = some 3 := ⟨by decide, by decide, by decide +kernel⟩
theorem pn_X1_meetsBut : plainFor yX1_meetsBut = true := by decide +kernel
def K_X1_meetsBut : ck_cd := [(0, .iconst 0, 1), (1, .istore_n 3, 1), (2, .iload_n 3, 1), (3, .aload_n 0, 1), (4, .getfield 13, 3), (7, .arraylength, 1), (8, .if_icmp .ge 58, 3), (11, .iload_n 3, 1), (12, .aload_n 1, 1), (13, .getfield 13, 3), (16, .arraylength, 1), (17, .if_icmp .ge 49, 3), (20, .iload_n 3, 1), (21, .aload_n 2, 1), (22, .getfield 13, 3), (25, .arraylength, 1), (26, .if_icmp .ge 40, 3), (29, .aload_n 0, 1), (30, .getfield 13, 3), (33, .iload_n 3, 1), (34, .laload, 1), (35, .aload_n 1, 1), (36, .getfield 13, 3), (39, .iload_n 3, 1), (40, .laload, 1), (41, .land, 1), (42, .aload_n 2, 1), (43, .getfield 13, 3), (46, .iload_n 3, 1), (47, .laload, 1), (48, .ldc2_w 25, 3), (51, .lxor, 1), (52, .land, 1), (53, .lconst 0, 1), (54, .lcmp, 1), (55, .ifCond .eq 5, 3), (58, .iconst 1, 1), (59, .ireturn, 1), (60, .iinc 3 1, 3), (63, .goto (-61), 3), (66, .iconst 0, 1), (67, .ireturn, 1)]
theorem k_X1_meetsBut : ∀ x ∈ K_X1_meetsBut, decode cX1_meetsBut x.1 = .ok (x.2.1, x.2.2) := by decide +kernel
def C_X1_meetsBut : ck_C := (([(2, 1, [1]), (2, 2, [1]), (2, 3, [1])], [], [(0, 0), (1, 0), (1, 0), (1, 0)], []), [([(0, 4, [])], [], [(1, 0), (1, 0), (1, 0), (1, 0), (1, 1)], []), ([(0, 4, [])], [], [(1, 0), (1, 0), (1, 0), (1, 0), (0, 0)], [])], [], 0, 0)
def M_X1_meetsBut : ck_Me := (4, cw_TT, cw_SG, 4, fl_X1, pl_X1, nw_X1, kl_X1, il_X1, xl_X1, cw_al, [], [], (0, 0), gl_X1)
def I_X1_meetsBut : List (Nat × ck_I) := [(2, (([(0, (2, 1, [1])), (1, (2, 2, [1])), (2, (2, 3, [1])), (3, (0, 4, []))], [], [], [(0, 0), (1, 0), (1, 0), (1, 0), (0, 5)], [], 0, 0), [(1, 4, 6), (0, 0, 1152921504606846976), (0, 0, 1152921504606846976)]))]
def S_X1_meetsBut : ck_S := ([(0, (2, 1, [1])), (1, (2, 2, [1])), (2, (2, 3, [1]))], [], [(0, 1000, (8, 0, [])), (0, 1001, (8, 1, [])), (0, 1002, (8, 2, [])), (0, 1003, (8, 3, []))], [(0, 0), (1, 0), (1, 0), (1, 0)], [], 0, 0)
theorem h_X1_meetsBut : ck_chk M_X1_meetsBut (ck_kr (mF M_X1_meetsBut) 4 2 C_X1_meetsBut) K_X1_meetsBut I_X1_meetsBut 4 47 S_X1_meetsBut = true := by decide +kernel
theorem o_X1_meetsBut : ck_ok5 C_X1_meetsBut = true := by decide +kernel
theorem a_X1_meetsBut : ck_ca cw_V RX1 cX1_meetsBut ⟨0, 0, 0, 0⟩ M_X1_meetsBut := fun _ _ _ _ _ _ _ _ _ _ _ _ _ _ _ _ _ _ _ _ h => absurd h List.not_mem_nil
theorem t_X1_meetsBut (l : Launch) : ck_met cw_V l yX1_meetsBut cX1_meetsBut 4 (some .boolean) ⟨0, 0, 0, 0⟩ C_X1_meetsBut :=
  ck_meth (M := M_X1_meetsBut) (rt := 2) (pre := []) false pn_X1_meetsBut rfl (fun h => by cases h) ⟨rfl, rfl, rfl, rfl, rfl⟩ ⟨rfl, rfl⟩ rfl (by decide) (by decide) (by decide) k_X1_meetsBut (tb_X1 ⟨rfl, rfl, rfl, rfl, rfl, rfl, rfl, rfl, rfl⟩) a_X1_meetsBut h_X1_meetsBut rfl
theorem hd_X9_goes : yX9_goes.cls ≠ "java/lang/invoke/MethodHandle" ∧ yX9_goes.cls ≠ "java/lang/invoke/VarHandle" ∧ (parseMethodDescriptor yX9_goes.desc).map (fun d => d.parameters.length) = some 2 := ⟨by decide, by decide, by decide +kernel⟩
theorem he_X9_goes : yX9_goes.cls ≠ "java/lang/invoke/MethodHandle" ∧ yX9_goes.cls ≠ "java/lang/invoke/VarHandle" ∧ (parseMethodDescriptor yX9_goes.desc).map (fun d => d.parameters.length + 1) = some 3 := ⟨by decide, by decide, by decide +kernel⟩
theorem pn_X9_goes : plainFor yX9_goes = true := by decide +kernel
def K_X9_goes : ck_cd := [(0, .iload_n 1, 1), (1, .ifCond .lt 12, 3), (4, .iload_n 1, 1), (5, .aload_n 0, 1), (6, .getfield 30, 3), (9, .arraylength, 1), (10, .if_icmp .lt 5, 3), (13, .iconst 0, 1), (14, .ireturn, 1), (15, .aload_n 2, 1), (16, .aload_n 0, 1), (17, .getfield 30, 3), (20, .iload_n 1, 1), (21, .aaload, 1), (22, .invokevirtual 82, 3), (25, .ifCond .eq 26, 3), (28, .aload_n 2, 1), (29, .aload_n 0, 1), (30, .getfield 34, 3), (33, .iload_n 1, 1), (34, .aaload, 1), (35, .aload_n 0, 1), (36, .getfield 37, 3), (39, .iload_n 1, 1), (40, .aaload, 1), (41, .invokevirtual 85, 3), (44, .ifCond .eq 7, 3), (47, .iconst 1, 1), (48, .goto 4, 3), (51, .iconst 0, 1), (52, .ireturn, 1)]
theorem k_X9_goes : ∀ x ∈ K_X9_goes, decode cX9_goes x.1 = .ok (x.2.1, x.2.2) := by decide +kernel
def C_X9_goes : ck_C := (([(2, 1, [14]), (0, 2, []), (2, 3, [1])], [], [(0, 0), (1, 0), (0, 9), (1, 0)], []), [([(0, 4, [])], [], [(1, 0), (1, 0), (1, 0), (1, 0), (0, 0)], []), ([(0, 4, [])], [], [(1, 0), (1, 0), (1, 0), (1, 0), (1, 1)], [])], [], 0, 0)
def M_X9_goes : ck_Me := (4, cw_TT, cw_SG, 3, fl_X9, pl_X9, nw_X9, kl_X9, il_X9, xl_X9, cw_al, [(3 * 82, 1, 2, C_X1_within), (3 * 85, 1, 3, C_X1_meetsBut)], [], (0, 0), gl_X9)
def I_X9_goes : List (Nat × ck_I) := []
def S_X9_goes : ck_S := ([(0, (2, 1, [14])), (1, (0, 2, [])), (2, (2, 3, [1]))], [], [(0, 1000, (8, 0, [])), (0, 1001, (8, 1, [])), (0, 1002, (8, 2, [])), (0, 1003, (8, 3, []))], [(0, 0), (1, 0), (0, 9), (1, 0)], [], 0, 0)
theorem h_X9_goes : ck_chk M_X9_goes (ck_kr (mF M_X9_goes) 4 2 C_X9_goes) K_X9_goes I_X9_goes 4 36 S_X9_goes = true := by decide +kernel
theorem o_X9_goes : ck_ok5 C_X9_goes = true := by decide +kernel
theorem a_X9_goes : ck_ca cw_V RX9 cX9_goes ⟨1, 0, 0, 23⟩ M_X9_goes := fun _ l _ _ _ _ _ _ _ _ _ _ _ _ X hts htl hsw hnq =>
  (List.forall_mem_cons.mpr ⟨ck_cs_V (t_X1_within l) X hts htl hsw hnq ⟨rfl, rfl⟩ o_X1_within cw_good (ck_m5 tw_946 tw_560 tw_561 tw_97 tw_562) (by decide) rfl rfl rfl he_X1_within ⟨rfl, rfl⟩ ⟨by decide, by decide⟩, (List.forall_mem_cons.mpr ⟨ck_cs_V (t_X1_meetsBut l) X hts htl hsw hnq ⟨rfl, rfl⟩ o_X1_meetsBut cw_good (ck_m5 tw_947 tw_948 tw_949 tw_97 tw_950) (by decide) rfl rfl rfl he_X1_meetsBut ⟨rfl, rfl⟩ ⟨by decide, by decide⟩, (fun _ h => absurd h List.not_mem_nil)⟩)⟩)
theorem t_X9_goes (l : Launch) : ck_met cw_V l yX9_goes cX9_goes 3 (some .boolean) ⟨1, 0, 0, 23⟩ C_X9_goes :=
  ck_meth (M := M_X9_goes) (rt := 2) (pre := []) false pn_X9_goes rfl (fun h => by cases h) ⟨rfl, rfl, rfl, rfl, rfl⟩ ⟨rfl, rfl⟩ rfl (by decide) (by decide) (by decide) k_X9_goes (tb_X9 ⟨rfl, rfl, rfl, rfl, rfl, rfl, rfl, rfl, rfl⟩) a_X9_goes h_X9_goes rfl
theorem hd_X9_goesOfBase : yX9_goesOfBase.cls ≠ "java/lang/invoke/MethodHandle" ∧ yX9_goesOfBase.cls ≠ "java/lang/invoke/VarHandle" ∧ (parseMethodDescriptor yX9_goesOfBase.desc).map (fun d => d.parameters.length) = some 1 := ⟨by decide, by decide, by decide +kernel⟩
theorem he_X9_goesOfBase : yX9_goesOfBase.cls ≠ "java/lang/invoke/MethodHandle" ∧ yX9_goesOfBase.cls ≠ "java/lang/invoke/VarHandle" ∧ (parseMethodDescriptor yX9_goesOfBase.desc).map (fun d => d.parameters.length + 1) = some 2 := ⟨by decide, by decide, by decide +kernel⟩
theorem pn_X9_goesOfBase : plainFor yX9_goesOfBase = true := by decide +kernel
def K_X9_goesOfBase : ck_cd := [(0, .aload_n 0, 1), (1, .iload_n 1, 1), (2, .aload_n 0, 1), (3, .getfield 14, 3), (6, .invokevirtual 89, 3), (9, .ireturn, 1)]
theorem k_X9_goesOfBase : ∀ x ∈ K_X9_goesOfBase, decode cX9_goesOfBase x.1 = .ok (x.2.1, x.2.2) := by decide +kernel
def C_X9_goesOfBase : ck_C := (([(2, 1, [14]), (0, 2, [])], [], [(0, 0), (1, 0), (0, 9)], []), [([(0, 3, [])], [], [(1, 0), (1, 0), (1, 0), (1, 1)], []), ([(0, 3, [])], [], [(1, 0), (1, 0), (1, 0), (0, 0)], [])], [], 0, 0)
def M_X9_goesOfBase : ck_Me := (4, cw_TT, cw_SG, 2, fl_X9, pl_X9, nw_X9, kl_X9, il_X9, xl_X9, cw_al, [(3 * 89, 14, 3, C_X9_goes)], [], (0, 0), gl_X9)
def I_X9_goesOfBase : List (Nat × ck_I) := []
def S_X9_goesOfBase : ck_S := ([(0, (2, 1, [14])), (1, (0, 2, []))], [], [(0, 1000, (8, 0, [])), (0, 1001, (8, 1, [])), (0, 1002, (8, 2, []))], [(0, 0), (1, 0), (0, 9)], [], 0, 0)
theorem h_X9_goesOfBase : ck_chk M_X9_goesOfBase (ck_kr (mF M_X9_goesOfBase) 3 2 C_X9_goesOfBase) K_X9_goesOfBase I_X9_goesOfBase 3 11 S_X9_goesOfBase = true := by decide +kernel
theorem o_X9_goesOfBase : ck_ok5 C_X9_goesOfBase = true := by decide +kernel
theorem a_X9_goesOfBase : ck_ca cw_V RX9 cX9_goesOfBase ⟨2, 0, 0, 45⟩ M_X9_goesOfBase := fun _ l _ _ _ _ _ _ _ _ _ _ _ _ X hts htl hsw hnq =>
  (List.forall_mem_cons.mpr ⟨ck_cs_V (t_X9_goes l) X hts htl hsw hnq ⟨rfl, rfl⟩ o_X9_goes cw_good (ck_m5 tw_942 tw_944 tw_15 tw_101 tw_945) (by decide) rfl rfl rfl he_X9_goes ⟨rfl, rfl⟩ ⟨by decide, by decide⟩, (fun _ h => absurd h List.not_mem_nil)⟩)
theorem t_X9_goesOfBase (l : Launch) : ck_met cw_V l yX9_goesOfBase cX9_goesOfBase 2 (some .boolean) ⟨2, 0, 0, 45⟩ C_X9_goesOfBase :=
  ck_meth (M := M_X9_goesOfBase) (rt := 2) (pre := []) false pn_X9_goesOfBase rfl (fun h => by cases h) ⟨rfl, rfl, rfl, rfl, rfl⟩ ⟨rfl, rfl⟩ rfl (by decide) (by decide) (by decide) k_X9_goesOfBase (tb_X9 ⟨rfl, rfl, rfl, rfl, rfl, rfl, rfl, rfl, rfl⟩) a_X9_goesOfBase h_X9_goesOfBase rfl
def C_X1_add_v3 : ck_C := (([(2, 1, [3]), (0, 2, [])], [], [(0, 0), (1, 0), ((-2147483648), 2147483647)], []), [([], [], [(1, 0), (1, 0), (1, 0)], [])], [(4, 0)], 0, 0)
def M_X1_add_v3 : ck_Me := (4, cw_TT, cw_SG, 3, fl_X1, pl_X1, nw_X1, kl_X1, il_X1, xl_X1, cw_al, [], [(4, 0)], (0, 0), gl_X1)
def I_X1_add_v3 : List (Nat × ck_I) := []
def S_X1_add_v3 : ck_S := ([(0, (2, 1, [3])), (1, (0, 2, []))], [], [(0, 1000, (8, 0, [])), (0, 1001, (8, 1, [])), (0, 1002, (8, 2, []))], [(0, 0), (1, 0), ((-2147483648), 2147483647)], [], 0, 0)
theorem h_X1_add_v3 : ck_chk M_X1_add_v3 (ck_kr (mF M_X1_add_v3) 3 0 C_X1_add_v3) K_X1_add I_X1_add_v3 3 29 S_X1_add_v3 = true := by decide +kernel
theorem o_X1_add_v3 : ck_ok5 C_X1_add_v3 = true := by decide +kernel
theorem a_X1_add_v3 : ck_ca cw_V RX1 cX1_add ⟨0, 0, 0, 0⟩ M_X1_add_v3 := fun _ _ _ _ _ _ _ _ _ _ _ _ _ _ _ _ _ _ _ _ h => absurd h List.not_mem_nil
theorem t_X1_add_v3 (l : Launch) : ck_met cw_V l yX1_add cX1_add 3 none ⟨0, 0, 0, 0⟩ C_X1_add_v3 :=
  ck_meth (M := M_X1_add_v3) (rt := 0) (pre := []) false pn_X1_add rfl (fun h => by cases h) ⟨rfl, rfl, rfl, rfl, rfl⟩ ⟨rfl, rfl⟩ rfl (by decide) (by decide) (by decide) k_X1_add (tb_X1 ⟨rfl, rfl, rfl, rfl, rfl, rfl, rfl, rfl, rfl⟩) a_X1_add_v3 h_X1_add_v3 rfl
def C_J7_fill_d0a16_v3 : ck_C := (([(2, 1, [4]), (1, 2, [])], [], [(0, 0), (1, 0), ((-9223372036854775808), 9223372036854775807)], []), [([], [], [(1, 0), (1, 0), (1, 0)], [])], [(4, 0)], 0, 0)
def M_J7_fill_d0a16_v3 : ck_Me := (4, cw_TT, cw_SG, 5, fl_J7, pl_J7, nw_J7, kl_J7, il_J7, xl_J7, cw_al, [], [(4, 0)], (0, 0), gl_J7)
def I_J7_fill_d0a16_v3 : List (Nat × ck_I) := [(6, (([(0, (2, 1, [4])), (1, (1, 2, [])), (3, (0, 3, [])), (4, (0, 4, []))], [], [], [(0, 0), (1, 0), ((-9223372036854775808), 9223372036854775807), (0, 16), (16, 16)], [], 0, 0), [(1, 3, 17), (0, 0, 1152921504606846976), (0, 0, 1152921504606846976)]))]
def S_J7_fill_d0a16_v3 : ck_S := ([(0, (2, 1, [4])), (1, (1, 2, []))], [], [(0, 1000, (8, 0, [])), (0, 1001, (8, 1, [])), (0, 1002, (8, 2, []))], [(0, 0), (1, 0), ((-9223372036854775808), 9223372036854775807)], [], 0, 0)
theorem h_J7_fill_d0a16_v3 : ck_chk M_J7_fill_d0a16_v3 (ck_kr (mF M_J7_fill_d0a16_v3) 3 0 C_J7_fill_d0a16_v3) K_J7_fill_d0a16 I_J7_fill_d0a16_v3 3 20 S_J7_fill_d0a16_v3 = true := by decide +kernel
theorem o_J7_fill_d0a16_v3 : ck_ok5 C_J7_fill_d0a16_v3 = true := by decide +kernel
theorem a_J7_fill_d0a16_v3 : ck_ca cw_V RJ7 cJ7_fill_d0a16 ⟨0, 0, 0, 0⟩ M_J7_fill_d0a16_v3 := fun _ _ _ _ _ _ _ _ _ _ _ _ _ _ _ _ _ _ _ _ h => absurd h List.not_mem_nil
theorem t_J7_fill_d0a16_v3 (l : Launch) : ck_met cw_V l yJ7_fill_d0a16 cJ7_fill_d0a16 5 none ⟨0, 0, 0, 0⟩ C_J7_fill_d0a16_v3 :=
  ck_meth (M := M_J7_fill_d0a16_v3) (rt := 0) (pre := []) false pn_J7_fill_d0a16 rfl (fun h => by cases h) ⟨rfl, rfl, rfl, rfl, rfl⟩ ⟨rfl, rfl⟩ rfl (by decide) (by decide) (by decide) k_J7_fill_d0a16 (tb_J7 ⟨rfl, rfl, rfl, rfl, rfl, rfl, rfl, rfl, rfl⟩) a_J7_fill_d0a16_v3 h_J7_fill_d0a16_v3 rfl
def C_X1_clear_v3 : ck_C := (([(2, 1, [3])], [], [(0, 0), (1, 0)], []), [([], [], [(1, 0), (1, 0)], [])], [(4, 0)], 0, 0)
def M_X1_clear_v3 : ck_Me := (4, cw_TT, cw_SG, 1, fl_X1, pl_X1, nw_X1, kl_X1, il_X1, xl_X1, cw_al, [(3 * 19 + 1, 0, 2, C_J7_fill_d0a16_v3)], [(4, 0)], (0, 0), gl_X1)
def I_X1_clear_v3 : List (Nat × ck_I) := []
def S_X1_clear_v3 : ck_S := ([(0, (2, 1, [3]))], [], [(0, 1000, (8, 0, [])), (0, 1001, (8, 1, []))], [(0, 0), (1, 0)], [], 0, 0)
theorem h_X1_clear_v3 : ck_chk M_X1_clear_v3 (ck_kr (mF M_X1_clear_v3) 2 0 C_X1_clear_v3) K_X1_clear I_X1_clear_v3 2 10 S_X1_clear_v3 = true := by decide +kernel
theorem o_X1_clear_v3 : ck_ok5 C_X1_clear_v3 = true := by decide +kernel
theorem a_X1_clear_v3 : ck_ca cw_V RX1 cX1_clear ⟨1, 0, 0, 24⟩ M_X1_clear_v3 := fun _ l _ _ _ _ _ _ _ _ _ _ _ _ X hts htl hsw hnq =>
  (List.forall_mem_cons.mpr ⟨ck_cs_S (t_J7_fill_d0a16_v3 l) X hts htl hsw hnq ⟨rfl, rfl⟩ o_J7_fill_d0a16_v3 cw_good (ck_m4 tw_482 tw_483 tw_100 tw_484) hd_J7_fill_d0a16 ⟨rfl, rfl⟩ ⟨by decide, by decide⟩, (fun _ h => absurd h List.not_mem_nil)⟩)
theorem t_X1_clear_v3 (l : Launch) : ck_met cw_V l yX1_clear cX1_clear 1 none ⟨1, 0, 0, 24⟩ C_X1_clear_v3 :=
  ck_meth (M := M_X1_clear_v3) (rt := 0) (pre := []) false pn_X1_clear rfl (fun h => by cases h) ⟨rfl, rfl, rfl, rfl, rfl⟩ ⟨rfl, rfl⟩ rfl (by decide) (by decide) (by decide) k_X1_clear (tb_X1 ⟨rfl, rfl, rfl, rfl, rfl, rfl, rfl, rfl, rfl⟩) a_X1_clear_v3 h_X1_clear_v3 rfl
