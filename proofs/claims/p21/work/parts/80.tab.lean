/-! the types, the tables by place -/
abbrev cw_cls : List vw_C := [(RX0, TX0, 5), (RX1, TX1, 1), (RX2, TX2, 12), (RX3, TX3, 17), (RX4, TX4, 7), (RX5, TX5, 5), (RX6, TX6, 4), (RX7, TX7, 4), (RX8, TX8, 5), (RX9, TX9, 12), (RX4, TX4, 7), (RX11, TX11, 15), (RX12, TX12, 68)]
def cw_TT : List ck_D := [
  (9, 0, 0, []),
  (0, 1, 0, [(2, 0, 0, [2])]),
  (2, 4, 1, []),
  (0, 1, 0, [(2, 0, 0, [4])]),
  (2, 16, 1, []),
  (0, 1, 0, [(2, 0, 0, [6])]),
  (2, 64, 1, []),
  (0, 4, 0, [(0, (-2147483648), 2147483647, []), (0, (-2147483648), 2147483647, []), (0, 0, 5, []), (0, (-2147483648), 2147483647, []), (0, (-2147483648), 2147483647, []), (0, (-2147483648), 2147483647, []), (0, (-2147483648), 2147483647, [])]),
  (0, 8, 0, [(0, (-2147483648), 2147483647, []), (0, (-2147483648), 2147483647, []), (0, (-2147483648), 2147483647, []), (0, (-2147483648), 2147483647, []), (0, (-2147483648), 2147483647, [])]),
  (0, 0, 0, [(0, (-2147483648), 2147483647, []), (0, (-2147483648), 2147483647, []), (0, (-2147483648), 2147483647, []), (0, (-2147483648), 2147483647, []), (0, (-2147483648), 2147483647, [])]),
  (0, 5, 0, [(0, (-2147483648), 2147483647, []), (0, (-2147483648), 2147483647, []), (0, (-2147483648), 2147483647, []), (0, (-2147483648), 2147483647, []), (0, (-2147483648), 2147483647, [])]),
  (0, 11, 0, [(2, 0, 0, [18]), (0, 0, 60, []), (2, 0, 0, [1]), (2, 0, 0, [1]), (2, 0, 0, [12]), (2, 0, 0, [13]), (2, 0, 0, [14]), (2, 0, 0, [15]), (2, 0, 0, [16]), (2, 0, 0, [19]), (2, 0, 0, [21]), (2, 0, 0, [22]), (2, 0, 0, [23]), (2, 0, 0, [24]), (0, (-2147483648), 2147483647, [])]),
  (0, 7, 0, [(2, 0, 0, [25]), (2, 0, 0, [26]), (0, 0, 60, []), (0, 0, 32, [])]),
  (0, 2, 0, [(2, 0, 0, [27]), (0, 0, 12, []), (0, (-2147483648), 2147483647, []), (0, (-2147483648), 2147483647, []), (2, 0, 0, [28]), (2, 0, 0, [29]), (2, 0, 0, [1]), (2, 0, 0, [5]), (2, 0, 0, [5]), (2, 0, 0, [5]), (2, 0, 0, [5]), (0, (-2147483648), 2147483647, [])]),
  (0, 9, 0, [(2, 0, 0, [1]), (0, 0, 10, []), (2, 0, 0, [30]), (2, 0, 0, [31]), (2, 0, 0, [32]), (2, 0, 0, [33]), (2, 0, 0, [1]), (2, 0, 0, [1]), (2, 0, 0, [3]), (2, 0, 0, [3]), (0, (-2147483648), 2147483647, []), (0, (-2147483648), 2147483647, [])]),
  (0, 3, 0, [(0, 0, 12, []), (0, (-2147483648), 2147483647, []), (2, 0, 0, [34]), (2, 0, 0, [38]), (2, 0, 0, [35]), (2, 0, 0, [36]), (2, 0, 0, [5]), (2, 0, 0, [5]), (2, 0, 0, [5]), (2, 0, 0, [37]), (2, 0, 0, [39]), (2, 0, 0, [40]), (2, 0, 0, [5]), (2, 0, 0, [41]), (2, 0, 0, [42]), (0, (-2147483648), 2147483647, []), (0, (-2147483648), 2147483647, [])]),
  (0, 6, 0, [(2, 0, 0, [44]), (0, (-2147483648), 2147483647, []), (2, 0, 0, [1]), (0, (-2147483648), 2147483647, [])]),
  (0, 12, 0, [(0, (-2147483648), 2147483647, []), (0, 0, 60, []), (2, 0, 0, [45]), (2, 0, 0, [46]), (2, 0, 0, [47]), (0, 0, 64, []), (2, 0, 0, [48]), (0, 0, 64, []), (0, 0, 12, []), (2, 0, 0, [49]), (2, 0, 0, [50]), (2, 0, 0, [51]), (2, 0, 0, [52]), (2, 0, 0, [53]), (2, 0, 0, [54]), (0, (-2147483648), 2147483647, []), (0, (-2147483648), 2147483647, []), (0, 0, 1, []), (2, 0, 0, [55]), (0, 0, 1, []), (0, 0, 4095, []), (0, 0, 4096, []), (2, 0, 0, [56]), (0, 0, 4096, []), (2, 0, 0, [57]), (0, (-2147483648), 2147483647, []), (0, 0, 4095, []), (0, 0, 10, []), (2, 0, 0, [58]), (2, 0, 0, [59]), (2, 0, 0, [60]), (2, 0, 0, [61]), (2, 0, 0, [62]), (0, 0, 1, []), (2, 0, 0, [63]), (0, 0, 1024, []), (2, 0, 0, [64]), (0, 0, 1024, []), (2, 0, 0, [65]), (2, 0, 0, [66]), (0, 0, 12, []), (2, 0, 0, [67]), (2, 0, 0, [68]), (0, 0, 1, []), (2, 0, 0, [69]), (2, 0, 0, [70]), (2, 0, 0, [71]), (0, 0, 4095, []), (0, (-2147483648), 2147483647, []), (0, 0, 4096, []), (2, 0, 0, [72]), (0, 0, 4096, []), (2, 0, 0, [73]), (2, 0, 0, [74]), (2, 0, 0, [75]), (0, 0, 1, []), (0, (-2147483648), 2147483647, []), (2, 0, 0, [76]), (2, 0, 0, [77]), (2, 0, 0, [78]), (2, 0, 0, [79]), (2, 0, 0, [80]), (2, 0, 0, [81]), (0, (-2147483648), 2147483647, []), (2, 0, 0, [82]), (2, 0, 0, [83]), (2, 0, 0, [84]), (2, 0, 0, [85])]),
  (3, 60, 3, [(2, 0, 0, [86])]),
  (3, 6, 6, [(3, 0, 0, [7, 8, 9, 10])]),
  (1, 60, 0, [(0, (-2147483648), 2147483647, [])]),
  (5, 4, 7, [(2, 0, 0, [20])]),
  (1, 4, 0, [(0, (-2147483648), 2147483647, [])]),
  (1, 4, 0, [(0, 0, 60, [])]),
  (1, 1, 0, [(0, (-2147483648), 2147483647, [])]),
  (1, 60, 0, [(0, (-2147483648), 2147483647, [])]),
  (3, 32, 3, [(2, 0, 0, [92])]),
  (1, 6, 0, [(0, (-2147483648), 2147483647, [])]),
  (3, 12, 4, [(3, 0, 0, [7])]),
  (1, 256, 0, [(0, (-2147483648), 2147483647, [])]),
  (3, 10, 5, [(3, 0, 0, [8, 9, 10])]),
  (3, 10, 3, [(2, 0, 0, [88])]),
  (3, 10, 3, [(2, 0, 0, [88])]),
  (3, 10, 3, [(2, 0, 0, [88])]),
  (1, 12, 0, [(0, (-2147483648), 2147483647, [])]),
  (1, 12, 0, [(0, (-2147483648), 2147483647, [])]),
  (1, 12, 0, [(0, (-2147483648), 2147483647, [])]),
  (1, 12, 0, [(0, (-2147483648), 2147483647, [])]),
  (1, 12, 0, [(0, 0, 5, [])]),
  (3, 12, 3, [(2, 0, 0, [90])]),
  (1, 6, 0, [(0, (-2147483648), 2147483647, [])]),
  (1, 64, 0, [(0, (-2147483648), 2147483647, [])]),
  (1, 64, 0, [(0, (-2147483648), 2147483647, [])]),
  (1, 256, 0, [(0, (-2147483648), 2147483647, [])]),
  (5, 6, 7, [(2, 0, 0, [43])]),
  (2, 240, 1, []),
  (1, 6, 0, [(0, (-2147483648), 2147483647, [])]),
  (2, 256, 1, []),
  (1, 64, 0, [(0, (-2147483648), 2147483647, [])]),
  (1, 12, 0, [(0, 0, 59, [])]),
  (1, 12, 0, [(0, 0, 5, [])]),
  (1, 12, 0, [(0, (-2147483648), 2147483647, [])]),
  (1, 12, 0, [(0, (-2147483648), 2147483647, [])]),
  (1, 12, 0, [(0, (-2147483648), 2147483647, [])]),
  (1, 12, 0, [(0, (-2147483648), 2147483647, [])]),
  (2, 16384, 1, []),
  (1, 4096, 0, [(0, 0, 4095, [])]),
  (1, 4096, 0, [(0, 0, 4095, [])]),
  (1, 10, 0, [(0, (-2147483648), 2147483647, [])]),
  (1, 10, 0, [(0, 0, 59, [])]),
  (1, 10, 0, [(0, 0, 59, [])]),
  (1, 10, 0, [(0, 0, 59, [])]),
  (1, 10, 0, [(0, (-2147483648), 2147483647, [])]),
  (2, 4, 1, []),
  (1, 1024, 0, [(0, (-2147483648), 2147483647, [])]),
  (1, 1024, 0, [(0, (-2147483648), 2147483647, [])]),
  (1, 10, 0, [(0, (-2147483648), 2147483647, [])]),
  (1, 12, 0, [(0, 0, 59, [])]),
  (1, 12, 0, [(0, 0, 5, [])]),
  (1, 12, 0, [(0, (-2147483648), 2147483647, [])]),
  (1, 12, 0, [(0, (-2147483648), 2147483647, [])]),
  (1, 12, 0, [(0, (-2147483648), 2147483647, [])]),
  (1, 4096, 0, [(0, (-2147483648), 2147483647, [])]),
  (1, 4096, 0, [(0, (-2147483648), 2147483647, [])]),
  (4, 4096, 2, []),
  (4, 49152, 2, []),
  (1, 1536, 0, [(0, (-2147483648), 2147483647, [])]),
  (1, 6, 0, [(0, (-2147483648), 2147483647, [])]),
  (1, 6, 0, [(0, (-2147483648), 2147483647, [])]),
  (2, 4, 1, []),
  (1, 6, 0, [(0, (-9), 1, [])]),
  (1, 6, 0, [(0, 0, 11, [])]),
  (1, 4, 0, [(0, (-1), 60, [])]),
  (1, 4, 0, [(0, (-2147483648), 2147483647, [])]),
  (1, 240, 0, [(0, (-2147483648), 2147483647, [])]),
  (1, 60, 0, [(0, (-2147483648), 2147483647, [])]),
  (0, 1, 0, [(2, 0, 0, [87])]),
  (2, 4, 1, []),
  (0, 1, 0, [(2, 0, 0, [89])]),
  (2, 4, 1, []),
  (0, 1, 0, [(2, 0, 0, [91])]),
  (2, 4, 1, []),
  (0, 1, 0, [(2, 0, 0, [93])]),
  (2, 4, 1, [])]
def cw_SG : List Nat := [11, 12, 13, 14, 15, 16, 17, 18, 19, 21, 22, 23, 24, 25, 26, 27, 28, 29, 30, 31, 32, 33, 34, 35, 36, 37, 38, 39, 40, 41, 42, 44, 45, 46, 47, 48, 49, 50, 51, 52, 53, 54, 55, 56, 57, 58, 59, 60, 61, 62, 63, 64, 65, 66, 67, 68, 69, 70, 71, 72, 73, 74, 75, 76, 77, 78, 79, 80, 81, 82, 83, 84, 85]
def cw_tl : List FieldType := [.int, .long, .boolean, (.object "ReasonDesk$Bits"), (.object "ReasonDesk$Entry"), (.object "ReasonDesk$Rule"), (.object "ReasonDesk$Thing"), (.array .int)]
def cw_nc : List (String × String) := [("ReasonDesk$Entry", "ReasonDesk$Rule"), ("ReasonDesk$Entry", "ReasonDesk$Barred"), ("ReasonDesk$Entry", "ReasonDesk$Loose"), ("ReasonDesk$Rule", "ReasonDesk$Entry"), ("ReasonDesk$Barred", "ReasonDesk$Entry"), ("ReasonDesk$Loose", "ReasonDesk$Entry"), ("ReasonDesk$Rule", "ReasonDesk$Barred"), ("ReasonDesk$Rule", "ReasonDesk$Loose"), ("ReasonDesk$Barred", "ReasonDesk$Loose")]
def cw_nw : List Cond := [.castable "ReasonDesk$Loose" "ReasonDesk$Barred", .castable "ReasonDesk$Barred" "ReasonDesk$Rule", .castable "ReasonDesk$Loose" "ReasonDesk$Rule", .castable "ReasonDesk$Entry" "ReasonDesk$Thing", .castable "ReasonDesk$Rule" "ReasonDesk$Thing", .castable "ReasonDesk$Barred" "ReasonDesk$Thing", .castable "ReasonDesk$Loose" "ReasonDesk$Thing", .methodLinkNest RX11 33 yX7_init "ReasonDesk", .methodLinkNest RX7 15 yX11_rowOfBits "ReasonDesk", .methodLinkNest RX11 47 yX9_init "ReasonDesk", .methodLinkNest RX9 26 yX11_rowOfBits "ReasonDesk", .methodLinkNest RX11 54 yX3_init "ReasonDesk", .methodLinkNest RX3 42 yX11_rowOfBits "ReasonDesk", .methodLinkNest RX11 61 yX6_init "ReasonDesk", .methodLinkNest RX2 90 yX11_isSource "ReasonDesk", .methodLinkNest RX3 100 yX11_isSource "ReasonDesk", .declares ⟨"ReasonDesk$Thing", "told", "([I)I"⟩, .declares yX8_plainly]
def cw_tb : List Cond := lw_tbl.filter goodWord
def cw_V : ck_Wd := (cw_cls, cw_TT, cw_SG, cw_tl, cw_tb, cw_nc, cw_nw)
abbrev cw_ps : List (Int × Int) := [((-2147483648), (-1)), (0, 0), (1, 1), (2, 2), (3, 3), (4, 4), (5, 5), (6, 6), (7, 7), (8, 8), (9, 9), (10, 10), (11, 11), (12, 12), (13, 13), (14, 14), (15, 15), (16, 16), (17, 17), (18, 18), (19, 19), (20, 20), (21, 21), (22, 22), (23, 23), (24, 24), (25, 25), (26, 26), (27, 27), (28, 28), (29, 29), (30, 30), (31, 31), (32, 32), (33, 33), (34, 34), (35, 35), (36, 36), (37, 37), (38, 38), (39, 39), (40, 40), (41, 41), (42, 42), (43, 43), (44, 44), (45, 45), (46, 46), (47, 47), (48, 48), (49, 49), (50, 50), (51, 51), (52, 52), (53, 53), (54, 54), (55, 55), (56, 56), (57, 57), (58, 58), (59, 59), (60, 60), (61, 2147483647)]
theorem cw_cov : ∀ z : Int, -2147483648 ≤ z → z ≤ 2147483647 → ∃ x ∈ cw_ps, x.1 ≤ z ∧ z ≤ x.2 := by
  intro z h1 h2
  rcases Int.lt_or_le z 0 with h | h
  · exact ⟨(-2147483648, -1), List.mem_cons_self, h1, by omega⟩
  · rcases Int.lt_or_le 60 z with h3 | h3
    · exact ⟨(61, 2147483647), by decide, by omega, h2⟩
    · have hd : ∀ k : Nat, k < 61 → ∃ x ∈ cw_ps, x.1 ≤ (k : Int) ∧ (k : Int) ≤ x.2 := by decide +kernel
      obtain ⟨x, hx, x1, x2⟩ := hd z.toNat (by omega)
      exact ⟨x, hx, by omega, by omega⟩
theorem ck_pos {ws big : List Cond} (ps : List Nat) (h : ws.map some = ps.map (fun i => big[i]?)) : ∀ w ∈ ws, w ∈ big := by
  intro w hw
  have h1 : some w ∈ ws.map some := List.mem_map.mpr ⟨w, hw, rfl⟩
  rw [h] at h1
  obtain ⟨i, -, hi⟩ := List.mem_map.mp h1
  exact List.mem_of_getElem? hi
theorem ck_m3 {L : List Cond} {a b c : Cond} (h1 : a ∈ L) (h2 : b ∈ L) (h3 : c ∈ L) : ∀ w ∈ ([a, b, c] : List Cond), w ∈ L := by
  intro w hw
  simp only [List.mem_cons, List.not_mem_nil, or_false] at hw
  rcases hw with rfl | rfl | rfl <;> assumption
theorem ck_m4 {L : List Cond} {a b c d : Cond} (h1 : a ∈ L) (h2 : b ∈ L) (h3 : c ∈ L) (h4 : d ∈ L) : ∀ w ∈ ([a, b, c, d] : List Cond), w ∈ L := by
  intro w hw
  simp only [List.mem_cons, List.not_mem_nil, or_false] at hw
  rcases hw with rfl | rfl | rfl | rfl <;> assumption
theorem ck_m5 {L : List Cond} {a b c d e : Cond} (h1 : a ∈ L) (h2 : b ∈ L) (h3 : c ∈ L) (h4 : d ∈ L) (h5 : e ∈ L) : ∀ w ∈ ([a, b, c, d, e] : List Cond), w ∈ L := by
  intro w hw
  simp only [List.mem_cons, List.not_mem_nil, or_false] at hw
  rcases hw with rfl | rfl | rfl | rfl | rfl <;> assumption
theorem cw_good : ck_gd cw_tb := fun w hw => good_of_word (List.mem_filter.mp hw).2
theorem cw_tbs {w : Cond} (h : w ∈ cw_tb) : w ∈ lw_tbl := (List.mem_filter.mp h).1
theorem cw_nws : ∀ w ∈ cw_nw, w ∈ lw_tbl := by
  have h : cw_nw.all (fun w => decide (w ∈ lw_tbl)) = true := by decide +kernel
  exact fun w hw => of_decide_eq_true (List.all_eq_true.mp h w hw)
def ck_pick : List Bool → List Cond → List Cond
  | true :: bs, x :: xs => x :: ck_pick bs xs
  | false :: bs, _ :: xs => ck_pick bs xs
  | _, _ => []
theorem ck_pick_mem : ∀ {bs : List Bool} {l : List Cond} {w : Cond}, w ∈ ck_pick bs l → w ∈ l
  | true :: bs, x :: xs, w, h => by
    rcases List.mem_cons.mp h with rfl | h
    · exact List.mem_cons_self
    · exact List.mem_cons_of_mem _ (ck_pick_mem h)
  | false :: bs, x :: xs, w, h => List.mem_cons_of_mem _ (ck_pick_mem (bs := bs) h)
  | [], _, w, h => absurd h List.not_mem_nil
  | true :: _, [], w, h => absurd h List.not_mem_nil
  | false :: _, [], w, h => absurd h List.not_mem_nil
theorem ck_pk {bs : List Bool} {l us u : List Cond} (h : ck_pick bs l = us) (hu : ∀ w, w ∈ u → w ∈ us) (hl : ∀ w, w ∈ l → w ∈ lw_tbl) (hg : u.all goodWord = true) : ∀ w ∈ u, w ∈ cw_tb :=
  fun w hw => List.mem_filter.mpr ⟨hl w (ck_pick_mem (by rw [h]; exact hu w hw)), List.all_eq_true.mp hg w hw⟩
theorem ck_pog {ws : List Cond} (ps : List Nat) (h : ws.map some = ps.map (fun i => lw_tbl[i]?)) (hg : ws.all goodWord = true) : ∀ w ∈ ws, w ∈ cw_tb :=
  fun w hw => List.mem_filter.mpr ⟨ck_pos ps h w hw, List.all_eq_true.mp hg w hw⟩
theorem cw_in_X0 : ∀ w ∈ u_ws RX0 TX0 5, w ∈ cw_tb := ck_pog [901, 902, 903, 904, 905] (by decide +kernel) (by decide +kernel)
theorem cw_in_X1 : ∀ w ∈ u_ws RX1 TX1 1, w ∈ cw_tb := ck_pog [136] (by decide +kernel) (by decide +kernel)
theorem cw_in_X2 : ∀ w ∈ u_ws RX2 TX2 12, w ∈ cw_tb := ck_pog [191, 193, 195, 197, 199, 201, 203, 205, 207, 209, 211, 213] (by decide +kernel) (by decide +kernel)
theorem cw_in_X3 : ∀ w ∈ u_ws RX3 TX3 17, w ∈ cw_tb := ck_pog [301, 303, 305, 307, 309, 311, 313, 315, 317, 319, 321, 323, 325, 327, 329, 331, 333] (by decide +kernel) (by decide +kernel)
theorem cw_in_X4 : ∀ w ∈ u_ws RX4 TX4 7, w ∈ cw_tb := ck_pog [630, 618, 620, 622, 624, 626, 628] (by decide +kernel) (by decide +kernel)
theorem cw_in_X5 : ∀ w ∈ u_ws RX5 TX5 5, w ∈ cw_tb := ck_pog [913, 914, 915, 916, 917] (by decide +kernel) (by decide +kernel)
theorem cw_in_X6 : ∀ w ∈ u_ws RX6 TX6 4, w ∈ cw_tb := ck_pog [352, 354, 356, 358] (by decide +kernel) (by decide +kernel)
theorem cw_in_X7 : ∀ w ∈ u_ws RX7 TX7 4, w ∈ cw_tb := ck_pog [151, 153, 155, 157] (by decide +kernel) (by decide +kernel)
theorem cw_in_X8 : ∀ w ∈ u_ws RX8 TX8 5, w ∈ cw_tb := ck_pog [893, 885, 887, 889, 891] (by decide +kernel) (by decide +kernel)
theorem cw_in_X9 : ∀ w ∈ u_ws RX9 TX9 12, w ∈ cw_tb := ck_pog [241, 243, 245, 247, 249, 251, 253, 255, 257, 259, 261, 263] (by decide +kernel) (by decide +kernel)
theorem cw_in_X11 : ∀ w ∈ u_ws RX11 TX11 15, w ∈ cw_tb := ck_pog [380, 382, 384, 386, 388, 390, 392, 394, 396, 398, 400, 402, 404, 406, 408] (by decide +kernel) (by decide +kernel)
theorem cw_in_X12 : ∀ w ∈ u_ws RX12 TX12 68, w ∈ cw_tb := ck_pog [1339, 1341, 1343, 1345, 1347, 1349, 1351, 1353, 1355, 1357, 1359, 1361, 1363, 1365, 1367, 1369, 1371, 1373, 1375, 1377, 1379, 1381, 1383, 1385, 1387, 1389, 1391, 1393, 1395, 1397, 1399, 1401, 1403, 1405, 1407, 1409, 1411, 1413, 1415, 1417, 1419, 1421, 1423, 1425, 1427, 1429, 1431, 1433, 1435, 1437, 1439, 1441, 1443, 1445, 1447, 1449, 1451, 1453, 1455, 1457, 1459, 1461, 1463, 1465, 1467, 1469, 1471, 1473] (by decide +kernel) (by decide +kernel)
