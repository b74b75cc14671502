/-! the law's walk: what holds at its loop's head, and of each case's calls, comes to the answer 1 -/
/-- the trace that comes to the end comes to 1 -/
def lw_one (s0 : fS) (b L : Nat) (xs : Nat → Int32) : Prop := ∀ (pc : Nat) (lg : List (Nat × Value)) (x : Int32) (ws' : va_W) (sh' : List Nat), gr (tM M_law Fc_law (some (b, L, xs))) code s0 (pc, lg, [.int x], ws', sh') → decode code pc = .ok (.ireturn, 1) → x = 1
def oL : fO lW := (fun w => hof w.1, fun _ _ _ _ => False, fun _ _ _ _ _ => False)
def wL (w : lW) (ws : va_W) (sh : List Nat) : Prop := w = (ws, sh) ∧ f_dj ws
theorem oL_ok : f_wr oL wL := by
  refine ⟨fun w ws sh h => ?_, fun w ws sh p q e e' K h hq hk => hk.elim, fun w ws sh q t e K h hd hk => hk.elim⟩
  obtain ⟨rfl, hd⟩ := h
  exact ⟨rfl, hd⟩
theorem sp_lw {T : fT} {key na : Nat} {r : fR} (hT : T.2.2.2.2.2.1 key = (na, r)) (hr : ∀ (As : List Value) (ws : va_W) (sh : List Nat) (rv : Option Value) (ws' : va_W) (sh' : List Nat), r As ws sh rv ws' sh' → f_dj ws') : (T.2.2.2.2.2.1 (key, na, fLr r).1).1 = (key, na, fLr r).2.1 ∧ ∀ (As : List Value) (w : lW) (ws : va_W) (sh : List Nat) (rv : Option Value) (ws' : va_W) (sh' : List Nat), wL w ws sh → (T.2.2.2.2.2.1 (key, na, fLr r).1).2 As ws sh rv ws' sh' → ∃ w', wL w' ws' sh' ∧ (key, na, fLr r).2.2 As w rv w' := by
  refine ⟨by show (T.2.2.2.2.2.1 key).1 = na; rw [hT], fun As w ws sh rv ws' sh' hw hx => ?_⟩
  have hx : (T.2.2.2.2.2.1 key).2 As ws sh rv ws' sh' := hx
  rw [hT] at hx
  obtain ⟨rfl, -⟩ := hw
  exact ⟨(ws', sh'), ⟨rfl, hr _ _ _ _ _ _ hx⟩, hx⟩
theorem wT_all {W : Type} {k : Nat → fL_ → List Value → W → Prop} {pc : Nat} {lg : fL_} {r : List Value} {w : W} {x : Int32} : ∀ {os : List Int} {lo : Int}, (∀ o ∈ os, k (f_tg pc o) lg r w) → wT k pc lg r w x lo os
  | [], _, _ => trivial
  | o :: os, lo, h => ⟨fun _ => h o List.mem_cons_self, wT_all (os := os) (fun o' h' => h o' (List.mem_cons_of_mem _ h'))⟩
def T_lw (b L : Nat) (xs : Nat → Int32) : fT := tM M_law Fc_law (some (b, L, xs))
def P_lw : Option Value → lW → Prop := fun rv _ => rv = some (.int 1)
def Sp_lw : fP lW := [(303, 2, fLr r_X12_giveUp), (306, 3, fLr r_X11_news), (315, 3, fLr r_X12_news), (318, 3, fLr r_X11_postulate), (327, 3, fLr r_X12_postulate), (330, 6, fLr r_X11_rule), (339, 6, fLr r_X12_rule), (342, 3, fLr r_X11_ruled), (351, 3, fLr r_X12_ruled), (354, 2, fLr r_X11_extensions), (363, 2, fLr r_X12_extensions), (366, 3, fLr r_X11_extension), (375, 3, fLr r_X12_extension), (378, 3, fLr r_X11_concluded), (387, 3, fLr r_X12_concluded), (39, 5, fLr r_X11_read), (390, 3, fLr r_X11_claim), (399, 3, fLr r_X12_claim), (402, 3, fLr r_X11_strikes), (411, 3, fLr r_X12_strikes), (414, 3, fLr r_X11_claimed), (423, 3, fLr r_X12_claimed), (426, 2, fLr r_X11_sets), (435, 2, fLr r_X12_sets), (438, 3, fLr r_X11_setOf), (447, 3, fLr r_X12_setOf), (450, 1, fLr r_X11_parts), (462, 1, fLr r_X12_parts), (465, 3, fLr r_X11_far), (474, 3, fLr r_X12_far), (477, 2, fLr r_X11_merged), (486, 2, fLr r_X12_merged), (489, 3, fLr r_X11_mergedWorld), (498, 3, fLr r_X12_mergedWorld), (501, 3, fLr r_X11_agreed), (51, 5, fLr r_X12_read), (510, 3, fLr r_X12_agreed), (513, 4, fLr r_X11_take), (522, 4, fLr r_X12_take), (525, 2, fLr r_X11_loose), (534, 2, fLr r_X12_loose), (537, 3, fLr r_X11_as), (54, 4, fLr r_X11_make), (546, 3, fLr r_X12_as), (549, 2, fLr r_X11_tell), (558, 2, fLr r_X12_tell), (561, 2, fLr r_X11_show), (570, 2, fLr r_X12_show), (573, 4, fLr r_X11_sheet), (582, 4, fLr r_X12_sheet), (585, 2, fLr r_X11_lose), (594, 2, fLr r_X12_lose), (597, 4, fLr r_X11_put), (606, 4, fLr r_X12_put), (609, 4, fLr r_X11_cell), (621, 4, fLr r_X12_cell), (624, 6, fLr r_X11_copy), (633, 6, fLr r_X12_copy), (636, 1, fLr r_X11_trace), (645, 1, fLr r_X12_trace), (648, 1, fLr r_X11_fault), (657, 1, fLr r_X12_fault), (66, 4, fLr r_X12_make), (660, 2, fLr r_X11_many), (669, 2, fLr r_X12_many), (69, 2, fLr r_X11_worlds), (81, 2, fLr r_X12_worlds), (84, 3, fLr r_X11_truth), (96, 3, fLr r_X12_truth), (99, 3, fLr r_X11_compare), (108, 3, fLr r_X12_compare), (111, 3, fLr r_X11_trust), (120, 3, fLr r_X12_trust), (123, 6, fLr r_X11_hold), (135, 6, fLr r_X12_hold), (138, 3, fLr r_X11_view), (147, 3, fLr r_X12_view), (150, 3, fLr r_X11_entry), (159, 3, fLr r_X12_entry), (162, 3, fLr r_X11_drop), (171, 3, fLr r_X12_drop), (174, 2, fLr r_X11_weight), (183, 2, fLr r_X12_weight), (186, 2, fLr r_X11_together), (195, 2, fLr r_X12_together), (198, 3, fLr r_X11_reasons), (207, 3, fLr r_X12_reasons), (210, 4, fLr r_X11_reason), (219, 4, fLr r_X12_reason), (222, 2, fLr r_X11_harmonies), (231, 2, fLr r_X12_harmonies), (234, 3, fLr r_X11_harmony), (243, 3, fLr r_X12_harmony), (246, 3, fLr r_X11_held), (255, 3, fLr r_X12_held), (258, 2, fLr r_X11_cuts), (267, 2, fLr r_X12_cuts), (270, 3, fLr r_X11_cutOf), (279, 3, fLr r_X12_cutOf), (282, 2, fLr r_X11_least), (291, 2, fLr r_X12_least), (294, 2, fLr r_X11_giveUp)]
set_option maxRecDepth 100000 in
theorem Sp_lw_ok (b L : Nat) (xs : Nat → Int32) : f_sp (T_lw b L xs) Sp_lw wL :=
  (List.forall_mem_cons.mpr ⟨sp_lw rfl (fun _ _ _ _ _ _ h => h.2.2.1), (List.forall_mem_cons.mpr ⟨sp_lw rfl (fun _ _ _ _ _ _ h => h.2.2.1), (List.forall_mem_cons.mpr ⟨sp_lw rfl (fun _ _ _ _ _ _ h => h.2.2.1), (List.forall_mem_cons.mpr ⟨sp_lw rfl (fun _ _ _ _ _ _ h => h.2.2.1), (List.forall_mem_cons.mpr ⟨sp_lw rfl (fun _ _ _ _ _ _ h => h.2.2.1), (List.forall_mem_cons.mpr ⟨sp_lw rfl (fun _ _ _ _ _ _ h => h.2.2.1), (List.forall_mem_cons.mpr ⟨sp_lw rfl (fun _ _ _ _ _ _ h => h.2.2.1), (List.forall_mem_cons.mpr ⟨sp_lw rfl (fun _ _ _ _ _ _ h => h.2.2.1), (List.forall_mem_cons.mpr ⟨sp_lw rfl (fun _ _ _ _ _ _ h => h.2.2.1), (List.forall_mem_cons.mpr ⟨sp_lw rfl (fun _ _ _ _ _ _ h => h.2.2.1), (List.forall_mem_cons.mpr ⟨sp_lw rfl (fun _ _ _ _ _ _ h => h.2.2.1), (List.forall_mem_cons.mpr ⟨sp_lw rfl (fun _ _ _ _ _ _ h => h.2.2.1), (List.forall_mem_cons.mpr ⟨sp_lw rfl (fun _ _ _ _ _ _ h => h.2.2.1), (List.forall_mem_cons.mpr ⟨sp_lw rfl (fun _ _ _ _ _ _ h => h.2.2.1), (List.forall_mem_cons.mpr ⟨sp_lw rfl (fun _ _ _ _ _ _ h => h.2.2.1), (List.forall_mem_cons.mpr ⟨sp_lw rfl (fun _ _ _ _ _ _ h => h.2.2.1), (List.forall_mem_cons.mpr ⟨sp_lw rfl (fun _ _ _ _ _ _ h => h.2.2.1), (List.forall_mem_cons.mpr ⟨sp_lw rfl (fun _ _ _ _ _ _ h => h.2.2.1), (List.forall_mem_cons.mpr ⟨sp_lw rfl (fun _ _ _ _ _ _ h => h.2.2.1), (List.forall_mem_cons.mpr ⟨sp_lw rfl (fun _ _ _ _ _ _ h => h.2.2.1), (List.forall_mem_cons.mpr ⟨sp_lw rfl (fun _ _ _ _ _ _ h => h.2.2.1), (List.forall_mem_cons.mpr ⟨sp_lw rfl (fun _ _ _ _ _ _ h => h.2.2.1), (List.forall_mem_cons.mpr ⟨sp_lw rfl (fun _ _ _ _ _ _ h => h.2.2.1), (List.forall_mem_cons.mpr ⟨sp_lw rfl (fun _ _ _ _ _ _ h => h.2.2.1), (List.forall_mem_cons.mpr ⟨sp_lw rfl (fun _ _ _ _ _ _ h => h.2.2.1), (List.forall_mem_cons.mpr ⟨sp_lw rfl (fun _ _ _ _ _ _ h => h.2.2.1), (List.forall_mem_cons.mpr ⟨sp_lw rfl (fun _ _ _ _ _ _ h => h.2.2.1), (List.forall_mem_cons.mpr ⟨sp_lw rfl (fun _ _ _ _ _ _ h => h.2.2.1), (List.forall_mem_cons.mpr ⟨sp_lw rfl (fun _ _ _ _ _ _ h => h.2.2.1), (List.forall_mem_cons.mpr ⟨sp_lw rfl (fun _ _ _ _ _ _ h => h.2.2.1), (List.forall_mem_cons.mpr ⟨sp_lw rfl (fun _ _ _ _ _ _ h => h.2.2.1), (List.forall_mem_cons.mpr ⟨sp_lw rfl (fun _ _ _ _ _ _ h => h.2.2.1), (List.forall_mem_cons.mpr ⟨sp_lw rfl (fun _ _ _ _ _ _ h => h.2.2.1), (List.forall_mem_cons.mpr ⟨sp_lw rfl (fun _ _ _ _ _ _ h => h.2.2.1), (List.forall_mem_cons.mpr ⟨sp_lw rfl (fun _ _ _ _ _ _ h => h.2.2.1), (List.forall_mem_cons.mpr ⟨sp_lw rfl (fun _ _ _ _ _ _ h => h.2.2.1), (List.forall_mem_cons.mpr ⟨sp_lw rfl (fun _ _ _ _ _ _ h => h.2.2.1), (List.forall_mem_cons.mpr ⟨sp_lw rfl (fun _ _ _ _ _ _ h => h.2.2.1), (List.forall_mem_cons.mpr ⟨sp_lw rfl (fun _ _ _ _ _ _ h => h.2.2.1), (List.forall_mem_cons.mpr ⟨sp_lw rfl (fun _ _ _ _ _ _ h => h.2.2.1), (List.forall_mem_cons.mpr ⟨sp_lw rfl (fun _ _ _ _ _ _ h => h.2.2.1), (List.forall_mem_cons.mpr ⟨sp_lw rfl (fun _ _ _ _ _ _ h => h.2.2.1), (List.forall_mem_cons.mpr ⟨sp_lw rfl (fun _ _ _ _ _ _ h => h.2.2.1), (List.forall_mem_cons.mpr ⟨sp_lw rfl (fun _ _ _ _ _ _ h => h.2.2.1), (List.forall_mem_cons.mpr ⟨sp_lw rfl (fun _ _ _ _ _ _ h => h.2.2.1), (List.forall_mem_cons.mpr ⟨sp_lw rfl (fun _ _ _ _ _ _ h => h.2.2.1), (List.forall_mem_cons.mpr ⟨sp_lw rfl (fun _ _ _ _ _ _ h => h.2.2.1), (List.forall_mem_cons.mpr ⟨sp_lw rfl (fun _ _ _ _ _ _ h => h.2.2.1), (List.forall_mem_cons.mpr ⟨sp_lw rfl (fun _ _ _ _ _ _ h => h.2.2.1), (List.forall_mem_cons.mpr ⟨sp_lw rfl (fun _ _ _ _ _ _ h => h.2.2.1), (List.forall_mem_cons.mpr ⟨sp_lw rfl (fun _ _ _ _ _ _ h => h.2.2.1), (List.forall_mem_cons.mpr ⟨sp_lw rfl (fun _ _ _ _ _ _ h => h.2.2.1), (List.forall_mem_cons.mpr ⟨sp_lw rfl (fun _ _ _ _ _ _ h => h.2.2.1), (List.forall_mem_cons.mpr ⟨sp_lw rfl (fun _ _ _ _ _ _ h => h.2.2.1), (List.forall_mem_cons.mpr ⟨sp_lw rfl (fun _ _ _ _ _ _ h => h.2.2.1), (List.forall_mem_cons.mpr ⟨sp_lw rfl (fun _ _ _ _ _ _ h => h.2.2.1), (List.forall_mem_cons.mpr ⟨sp_lw rfl (fun _ _ _ _ _ _ h => h.2.2.1), (List.forall_mem_cons.mpr ⟨sp_lw rfl (fun _ _ _ _ _ _ h => h.2.2.1), (List.forall_mem_cons.mpr ⟨sp_lw rfl (fun _ _ _ _ _ _ h => h.2.2.1), (List.forall_mem_cons.mpr ⟨sp_lw rfl (fun _ _ _ _ _ _ h => h.2.2.1), (List.forall_mem_cons.mpr ⟨sp_lw rfl (fun _ _ _ _ _ _ h => h.2.2.1), (List.forall_mem_cons.mpr ⟨sp_lw rfl (fun _ _ _ _ _ _ h => h.2.2.1), (List.forall_mem_cons.mpr ⟨sp_lw rfl (fun _ _ _ _ _ _ h => h.2.2.1), (List.forall_mem_cons.mpr ⟨sp_lw rfl (fun _ _ _ _ _ _ h => h.2.2.1), (List.forall_mem_cons.mpr ⟨sp_lw rfl (fun _ _ _ _ _ _ h => h.2.2.1), (List.forall_mem_cons.mpr ⟨sp_lw rfl (fun _ _ _ _ _ _ h => h.2.2.1), (List.forall_mem_cons.mpr ⟨sp_lw rfl (fun _ _ _ _ _ _ h => h.2.2.1), (List.forall_mem_cons.mpr ⟨sp_lw rfl (fun _ _ _ _ _ _ h => h.2.2.1), (List.forall_mem_cons.mpr ⟨sp_lw rfl (fun _ _ _ _ _ _ h => h.2.2.1), (List.forall_mem_cons.mpr ⟨sp_lw rfl (fun _ _ _ _ _ _ h => h.2.2.1), (List.forall_mem_cons.mpr ⟨sp_lw rfl (fun _ _ _ _ _ _ h => h.2.2.1), (List.forall_mem_cons.mpr ⟨sp_lw rfl (fun _ _ _ _ _ _ h => h.2.2.1), (List.forall_mem_cons.mpr ⟨sp_lw rfl (fun _ _ _ _ _ _ h => h.2.2.1), (List.forall_mem_cons.mpr ⟨sp_lw rfl (fun _ _ _ _ _ _ h => h.2.2.1), (List.forall_mem_cons.mpr ⟨sp_lw rfl (fun _ _ _ _ _ _ h => h.2.2.1), (List.forall_mem_cons.mpr ⟨sp_lw rfl (fun _ _ _ _ _ _ h => h.2.2.1), (List.forall_mem_cons.mpr ⟨sp_lw rfl (fun _ _ _ _ _ _ h => h.2.2.1), (List.forall_mem_cons.mpr ⟨sp_lw rfl (fun _ _ _ _ _ _ h => h.2.2.1), (List.forall_mem_cons.mpr ⟨sp_lw rfl (fun _ _ _ _ _ _ h => h.2.2.1), (List.forall_mem_cons.mpr ⟨sp_lw rfl (fun _ _ _ _ _ _ h => h.2.2.1), (List.forall_mem_cons.mpr ⟨sp_lw rfl (fun _ _ _ _ _ _ h => h.2.2.1), (List.forall_mem_cons.mpr ⟨sp_lw rfl (fun _ _ _ _ _ _ h => h.2.2.1), (List.forall_mem_cons.mpr ⟨sp_lw rfl (fun _ _ _ _ _ _ h => h.2.2.1), (List.forall_mem_cons.mpr ⟨sp_lw rfl (fun _ _ _ _ _ _ h => h.2.2.1), (List.forall_mem_cons.mpr ⟨sp_lw rfl (fun _ _ _ _ _ _ h => h.2.2.1), (List.forall_mem_cons.mpr ⟨sp_lw rfl (fun _ _ _ _ _ _ h => h.2.2.1), (List.forall_mem_cons.mpr ⟨sp_lw rfl (fun _ _ _ _ _ _ h => h.2.2.1), (List.forall_mem_cons.mpr ⟨sp_lw rfl (fun _ _ _ _ _ _ h => h.2.2.1), (List.forall_mem_cons.mpr ⟨sp_lw rfl (fun _ _ _ _ _ _ h => h.2.2.1), (List.forall_mem_cons.mpr ⟨sp_lw rfl (fun _ _ _ _ _ _ h => h.2.2.1), (List.forall_mem_cons.mpr ⟨sp_lw rfl (fun _ _ _ _ _ _ h => h.2.2.1), (List.forall_mem_cons.mpr ⟨sp_lw rfl (fun _ _ _ _ _ _ h => h.2.2.1), (List.forall_mem_cons.mpr ⟨sp_lw rfl (fun _ _ _ _ _ _ h => h.2.2.1), (List.forall_mem_cons.mpr ⟨sp_lw rfl (fun _ _ _ _ _ _ h => h.2.2.1), (List.forall_mem_cons.mpr ⟨sp_lw rfl (fun _ _ _ _ _ _ h => h.2.2.1), (List.forall_mem_cons.mpr ⟨sp_lw rfl (fun _ _ _ _ _ _ h => h.2.2.1), (List.forall_mem_cons.mpr ⟨sp_lw rfl (fun _ _ _ _ _ _ h => h.2.2.1), (List.forall_mem_cons.mpr ⟨sp_lw rfl (fun _ _ _ _ _ _ h => h.2.2.1), (List.forall_mem_cons.mpr ⟨sp_lw rfl (fun _ _ _ _ _ _ h => h.2.2.1), (List.forall_mem_cons.mpr ⟨sp_lw rfl (fun _ _ _ _ _ _ h => h.2.2.1), (List.forall_mem_cons.mpr ⟨sp_lw rfl (fun _ _ _ _ _ _ h => h.2.2.1), (List.forall_mem_cons.mpr ⟨sp_lw rfl (fun _ _ _ _ _ _ h => h.2.2.1), (fun _ h => absurd h List.not_mem_nil)⟩)⟩)⟩)⟩)⟩)⟩)⟩)⟩)⟩)⟩)⟩)⟩)⟩)⟩)⟩)⟩)⟩)⟩)⟩)⟩)⟩)⟩)⟩)⟩)⟩)⟩)⟩)⟩)⟩)⟩)⟩)⟩)⟩)⟩)⟩)⟩)⟩)⟩)⟩)⟩)⟩)⟩)⟩)⟩)⟩)⟩)⟩)⟩)⟩)⟩)⟩)⟩)⟩)⟩)⟩)⟩)⟩)⟩)⟩)⟩)⟩)⟩)⟩)⟩)⟩)⟩)⟩)⟩)⟩)⟩)⟩)⟩)⟩)⟩)⟩)⟩)⟩)⟩)⟩)⟩)⟩)⟩)⟩)⟩)⟩)⟩)⟩)⟩)⟩)⟩)⟩)⟩)⟩)⟩)⟩)⟩)⟩)⟩)⟩)⟩)⟩)⟩)
/-- what holds at the loop's head and at each case -/
def I_lw (q1 q2 b : Nat) (J : lW → Prop) : fL_ → List Value → lW → Prop := fun lg vs w => ∃ i : Int32, f_sub [(3, false, .int i), (2, false, .ref q2), (1, false, .ref q1), (0, false, .ref b)] lg ∧ vs = [] ∧ J w
def H_lw (q1 q2 b : Nat) (J : lW → Prop) : fI lW := [(18, I_lw q1 q2 b J), (252, I_lw q1 q2 b J), (305, I_lw q1 q2 b J), (348, I_lw q1 q2 b J), (371, I_lw q1 q2 b J), (404, I_lw q1 q2 b J), (437, I_lw q1 q2 b J), (470, I_lw q1 q2 b J), (533, I_lw q1 q2 b J), (566, I_lw q1 q2 b J), (599, I_lw q1 q2 b J), (632, I_lw q1 q2 b J), (655, I_lw q1 q2 b J), (678, I_lw q1 q2 b J), (711, I_lw q1 q2 b J), (754, I_lw q1 q2 b J), (777, I_lw q1 q2 b J), (810, I_lw q1 q2 b J), (843, I_lw q1 q2 b J), (866, I_lw q1 q2 b J), (899, I_lw q1 q2 b J), (922, I_lw q1 q2 b J), (945, I_lw q1 q2 b J), (978, I_lw q1 q2 b J), (1011, I_lw q1 q2 b J), (1074, I_lw q1 q2 b J), (1107, I_lw q1 q2 b J), (1130, I_lw q1 q2 b J), (1163, I_lw q1 q2 b J), (1196, I_lw q1 q2 b J), (1229, I_lw q1 q2 b J), (1262, I_lw q1 q2 b J), (1295, I_lw q1 q2 b J), (1318, I_lw q1 q2 b J), (1351, I_lw q1 q2 b J), (1364, I_lw q1 q2 b J), (1397, I_lw q1 q2 b J), (1420, I_lw q1 q2 b J), (1453, I_lw q1 q2 b J), (1486, I_lw q1 q2 b J), (1529, I_lw q1 q2 b J), (1552, I_lw q1 q2 b J), (1585, I_lw q1 q2 b J), (1608, I_lw q1 q2 b J), (1631, I_lw q1 q2 b J), (1674, I_lw q1 q2 b J), (1697, I_lw q1 q2 b J), (1740, I_lw q1 q2 b J), (1783, I_lw q1 q2 b J), (1846, I_lw q1 q2 b J), (1859, I_lw q1 q2 b J), (1872, I_lw q1 q2 b J)]
/-- what is asked of the pairs of calls -/
def pq_read (q1 q2 : Nat) (J : lW → Prop) : Prop := ∀ (w w1 w2 : lW) (rv1 rv2 : Option Value) (a0 a1 a2 a3 : Int32), J w → fLr r_X11_read [.ref q1, .int a0, .int a1, .int a2, .int a3] w rv1 w1 → fLr r_X12_read [.ref q2, .int a0, .int a1, .int a2, .int a3] w1 rv2 w2 → J w2
def pq_make (q1 q2 : Nat) (J : lW → Prop) : Prop := ∀ (w w1 w2 : lW) (rv1 rv2 : Option Value) (a0 a1 a2 : Int32), J w → fLr r_X11_make [.ref q1, .int a0, .int a1, .int a2] w rv1 w1 → fLr r_X12_make [.ref q2, .int a0, .int a1, .int a2] w1 rv2 w2 → J w2
def pq_worlds (q1 q2 : Nat) (J : lW → Prop) : Prop := ∀ (w w1 w2 : lW) (rv1 rv2 : Option Value) (a0 : Int32), J w → fLr r_X11_worlds [.ref q1, .int a0] w rv1 w1 → fLr r_X12_worlds [.ref q2, .int a0] w1 rv2 w2 → J w2
def pq_truth (q1 q2 : Nat) (J : lW → Prop) : Prop := ∀ (w w1 w2 : lW) (rv1 rv2 : Option Value) (a0 a1 : Int32), J w → fLr r_X11_truth [.ref q1, .int a0, .int a1] w rv1 w1 → fLr r_X12_truth [.ref q2, .int a0, .int a1] w1 rv2 w2 → J w2
def pq_compare (q1 q2 : Nat) (J : lW → Prop) : Prop := ∀ (w w1 w2 : lW) (rv1 rv2 : Option Value) (a0 a1 : Int32), J w → fLr r_X11_compare [.ref q1, .int a0, .int a1] w rv1 w1 → fLr r_X12_compare [.ref q2, .int a0, .int a1] w1 rv2 w2 → J w2
def pq_trust (q1 q2 : Nat) (J : lW → Prop) : Prop := ∀ (w w1 w2 : lW) (rv1 rv2 : Option Value) (a0 a1 : Int32), J w → fLr r_X11_trust [.ref q1, .int a0, .int a1] w rv1 w1 → fLr r_X12_trust [.ref q2, .int a0, .int a1] w1 rv2 w2 → J w2
def pq_hold (q1 q2 : Nat) (J : lW → Prop) : Prop := ∀ (w w1 w2 : lW) (rv1 rv2 : Option Value) (a0 a1 a2 a3 a4 : Int32), J w → fLr r_X11_hold [.ref q1, .int a0, .int a1, .int a2, .int a3, .int a4] w rv1 w1 → fLr r_X12_hold [.ref q2, .int a0, .int a1, .int a2, .int a3, .int a4] w1 rv2 w2 → J w2
def pq_view (q1 q2 : Nat) (J : lW → Prop) : Prop := ∀ (w w1 w2 : lW) (rv1 rv2 : Option Value) (a0 a1 : Int32), J w → fLr r_X11_view [.ref q1, .int a0, .int a1] w rv1 w1 → fLr r_X12_view [.ref q2, .int a0, .int a1] w1 rv2 w2 → J w2
def pq_entry (q1 q2 : Nat) (J : lW → Prop) : Prop := ∀ (w w1 w2 : lW) (rv1 rv2 : Option Value) (a0 a1 : Int32), J w → fLr r_X11_entry [.ref q1, .int a0, .int a1] w rv1 w1 → fLr r_X12_entry [.ref q2, .int a0, .int a1] w1 rv2 w2 → J w2
def pq_drop (q1 q2 : Nat) (J : lW → Prop) : Prop := ∀ (w w1 w2 : lW) (rv1 rv2 : Option Value) (a0 a1 : Int32), J w → fLr r_X11_drop [.ref q1, .int a0, .int a1] w rv1 w1 → fLr r_X12_drop [.ref q2, .int a0, .int a1] w1 rv2 w2 → J w2
def pq_weight (q1 q2 : Nat) (J : lW → Prop) : Prop := ∀ (w w1 w2 : lW) (rv1 rv2 : Option Value) (a0 : Int32), J w → fLr r_X11_weight [.ref q1, .int a0] w rv1 w1 → fLr r_X12_weight [.ref q2, .int a0] w1 rv2 w2 → J w2
def pq_together (q1 q2 : Nat) (J : lW → Prop) : Prop := ∀ (w w1 w2 : lW) (rv1 rv2 : Option Value) (a0 : Int32), J w → fLr r_X11_together [.ref q1, .int a0] w rv1 w1 → fLr r_X12_together [.ref q2, .int a0] w1 rv2 w2 → J w2
def pq_reasons (q1 q2 : Nat) (J : lW → Prop) : Prop := ∀ (w w1 w2 : lW) (rv1 rv2 : Option Value) (a0 a1 : Int32), J w → fLr r_X11_reasons [.ref q1, .int a0, .int a1] w rv1 w1 → fLr r_X12_reasons [.ref q2, .int a0, .int a1] w1 rv2 w2 → J w2
def pq_reason (q1 q2 : Nat) (J : lW → Prop) : Prop := ∀ (w w1 w2 : lW) (rv1 rv2 : Option Value) (a0 a1 a2 : Int32), J w → fLr r_X11_reason [.ref q1, .int a0, .int a1, .int a2] w rv1 w1 → fLr r_X12_reason [.ref q2, .int a0, .int a1, .int a2] w1 rv2 w2 → J w2
def pq_harmonies (q1 q2 : Nat) (J : lW → Prop) : Prop := ∀ (w w1 w2 : lW) (rv1 rv2 : Option Value) (a0 : Int32), J w → fLr r_X11_harmonies [.ref q1, .int a0] w rv1 w1 → fLr r_X12_harmonies [.ref q2, .int a0] w1 rv2 w2 → J w2
def pq_harmony (q1 q2 : Nat) (J : lW → Prop) : Prop := ∀ (w w1 w2 : lW) (rv1 rv2 : Option Value) (a0 a1 : Int32), J w → fLr r_X11_harmony [.ref q1, .int a0, .int a1] w rv1 w1 → fLr r_X12_harmony [.ref q2, .int a0, .int a1] w1 rv2 w2 → J w2
def pq_held (q1 q2 : Nat) (J : lW → Prop) : Prop := ∀ (w w1 w2 : lW) (rv1 rv2 : Option Value) (a0 a1 : Int32), J w → fLr r_X11_held [.ref q1, .int a0, .int a1] w rv1 w1 → fLr r_X12_held [.ref q2, .int a0, .int a1] w1 rv2 w2 → J w2
def pq_cuts (q1 q2 : Nat) (J : lW → Prop) : Prop := ∀ (w w1 w2 : lW) (rv1 rv2 : Option Value) (a0 : Int32), J w → fLr r_X11_cuts [.ref q1, .int a0] w rv1 w1 → fLr r_X12_cuts [.ref q2, .int a0] w1 rv2 w2 → J w2
def pq_cutOf (q1 q2 : Nat) (J : lW → Prop) : Prop := ∀ (w w1 w2 : lW) (rv1 rv2 : Option Value) (a0 a1 : Int32), J w → fLr r_X11_cutOf [.ref q1, .int a0, .int a1] w rv1 w1 → fLr r_X12_cutOf [.ref q2, .int a0, .int a1] w1 rv2 w2 → J w2
def pq_least (q1 q2 : Nat) (J : lW → Prop) : Prop := ∀ (w w1 w2 : lW) (rv1 rv2 : Option Value) (a0 : Int32), J w → fLr r_X11_least [.ref q1, .int a0] w rv1 w1 → fLr r_X12_least [.ref q2, .int a0] w1 rv2 w2 → J w2
def pq_giveUp (q1 q2 : Nat) (J : lW → Prop) : Prop := ∀ (w w1 w2 : lW) (rv1 rv2 : Option Value) (a0 : Int32), J w → fLr r_X11_giveUp [.ref q1, .int a0] w rv1 w1 → fLr r_X12_giveUp [.ref q2, .int a0] w1 rv2 w2 → J w2
def pq_news (q1 q2 : Nat) (J : lW → Prop) : Prop := ∀ (w w1 w2 : lW) (rv1 rv2 : Option Value) (a0 a1 : Int32), J w → fLr r_X11_news [.ref q1, .int a0, .int a1] w rv1 w1 → fLr r_X12_news [.ref q2, .int a0, .int a1] w1 rv2 w2 → J w2
def pq_postulate (q1 q2 : Nat) (J : lW → Prop) : Prop := ∀ (w w1 w2 : lW) (rv1 rv2 : Option Value) (a0 a1 : Int32), J w → fLr r_X11_postulate [.ref q1, .int a0, .int a1] w rv1 w1 → fLr r_X12_postulate [.ref q2, .int a0, .int a1] w1 rv2 w2 → J w2
def pq_rule (q1 q2 : Nat) (J : lW → Prop) : Prop := ∀ (w w1 w2 : lW) (rv1 rv2 : Option Value) (a0 a1 a2 a3 a4 : Int32), J w → fLr r_X11_rule [.ref q1, .int a0, .int a1, .int a2, .int a3, .int a4] w rv1 w1 → fLr r_X12_rule [.ref q2, .int a0, .int a1, .int a2, .int a3, .int a4] w1 rv2 w2 → J w2
def pq_ruled (q1 q2 : Nat) (J : lW → Prop) : Prop := ∀ (w w1 w2 : lW) (rv1 rv2 : Option Value) (a0 a1 : Int32), J w → fLr r_X11_ruled [.ref q1, .int a0, .int a1] w rv1 w1 → fLr r_X12_ruled [.ref q2, .int a0, .int a1] w1 rv2 w2 → J w2
def pq_extensions (q1 q2 : Nat) (J : lW → Prop) : Prop := ∀ (w w1 w2 : lW) (rv1 rv2 : Option Value) (a0 : Int32), J w → fLr r_X11_extensions [.ref q1, .int a0] w rv1 w1 → fLr r_X12_extensions [.ref q2, .int a0] w1 rv2 w2 → J w2
def pq_extension (q1 q2 : Nat) (J : lW → Prop) : Prop := ∀ (w w1 w2 : lW) (rv1 rv2 : Option Value) (a0 a1 : Int32), J w → fLr r_X11_extension [.ref q1, .int a0, .int a1] w rv1 w1 → fLr r_X12_extension [.ref q2, .int a0, .int a1] w1 rv2 w2 → J w2
def pq_concluded (q1 q2 : Nat) (J : lW → Prop) : Prop := ∀ (w w1 w2 : lW) (rv1 rv2 : Option Value) (a0 a1 : Int32), J w → fLr r_X11_concluded [.ref q1, .int a0, .int a1] w rv1 w1 → fLr r_X12_concluded [.ref q2, .int a0, .int a1] w1 rv2 w2 → J w2
def pq_claim (q1 q2 : Nat) (J : lW → Prop) : Prop := ∀ (w w1 w2 : lW) (rv1 rv2 : Option Value) (a0 a1 : Int32), J w → fLr r_X11_claim [.ref q1, .int a0, .int a1] w rv1 w1 → fLr r_X12_claim [.ref q2, .int a0, .int a1] w1 rv2 w2 → rv1 = rv2 ∧ J w2
def pq_strikes (q1 q2 : Nat) (J : lW → Prop) : Prop := ∀ (w w1 w2 : lW) (rv1 rv2 : Option Value) (a0 a1 : Int32), J w → fLr r_X11_strikes [.ref q1, .int a0, .int a1] w rv1 w1 → fLr r_X12_strikes [.ref q2, .int a0, .int a1] w1 rv2 w2 → J w2
def pq_claimed (q1 q2 : Nat) (J : lW → Prop) : Prop := ∀ (w w1 w2 : lW) (rv1 rv2 : Option Value) (a0 a1 : Int32), J w → fLr r_X11_claimed [.ref q1, .int a0, .int a1] w rv1 w1 → fLr r_X12_claimed [.ref q2, .int a0, .int a1] w1 rv2 w2 → J w2
def pq_sets (q1 q2 : Nat) (J : lW → Prop) : Prop := ∀ (w w1 w2 : lW) (rv1 rv2 : Option Value) (a0 : Int32), J w → fLr r_X11_sets [.ref q1, .int a0] w rv1 w1 → fLr r_X12_sets [.ref q2, .int a0] w1 rv2 w2 → J w2
def pq_setOf (q1 q2 : Nat) (J : lW → Prop) : Prop := ∀ (w w1 w2 : lW) (rv1 rv2 : Option Value) (a0 a1 : Int32), J w → fLr r_X11_setOf [.ref q1, .int a0, .int a1] w rv1 w1 → fLr r_X12_setOf [.ref q2, .int a0, .int a1] w1 rv2 w2 → J w2
def pq_parts (q1 q2 : Nat) (J : lW → Prop) : Prop := ∀ (w w1 w2 : lW) (rv1 rv2 : Option Value), J w → fLr r_X11_parts [.ref q1] w rv1 w1 → fLr r_X12_parts [.ref q2] w1 rv2 w2 → J w2
def pq_far (q1 q2 : Nat) (J : lW → Prop) : Prop := ∀ (w w1 w2 : lW) (rv1 rv2 : Option Value) (a0 a1 : Int32), J w → fLr r_X11_far [.ref q1, .int a0, .int a1] w rv1 w1 → fLr r_X12_far [.ref q2, .int a0, .int a1] w1 rv2 w2 → J w2
def pq_merged (q1 q2 : Nat) (J : lW → Prop) : Prop := ∀ (w w1 w2 : lW) (rv1 rv2 : Option Value) (a0 : Int32), J w → fLr r_X11_merged [.ref q1, .int a0] w rv1 w1 → fLr r_X12_merged [.ref q2, .int a0] w1 rv2 w2 → J w2
def pq_mergedWorld (q1 q2 : Nat) (J : lW → Prop) : Prop := ∀ (w w1 w2 : lW) (rv1 rv2 : Option Value) (a0 a1 : Int32), J w → fLr r_X11_mergedWorld [.ref q1, .int a0, .int a1] w rv1 w1 → fLr r_X12_mergedWorld [.ref q2, .int a0, .int a1] w1 rv2 w2 → J w2
def pq_agreed (q1 q2 : Nat) (J : lW → Prop) : Prop := ∀ (w w1 w2 : lW) (rv1 rv2 : Option Value) (a0 a1 : Int32), J w → fLr r_X11_agreed [.ref q1, .int a0, .int a1] w rv1 w1 → fLr r_X12_agreed [.ref q2, .int a0, .int a1] w1 rv2 w2 → J w2
def pq_take (q1 q2 : Nat) (J : lW → Prop) : Prop := ∀ (w w1 w2 : lW) (rv1 rv2 : Option Value) (a0 a1 a2 : Int32), J w → fLr r_X11_take [.ref q1, .int a0, .int a1, .int a2] w rv1 w1 → fLr r_X12_take [.ref q2, .int a0, .int a1, .int a2] w1 rv2 w2 → J w2
def pq_loose (q1 q2 : Nat) (J : lW → Prop) : Prop := ∀ (w w1 w2 : lW) (rv1 rv2 : Option Value) (a0 : Int32), J w → fLr r_X11_loose [.ref q1, .int a0] w rv1 w1 → fLr r_X12_loose [.ref q2, .int a0] w1 rv2 w2 → J w2
def pq_as (q1 q2 : Nat) (J : lW → Prop) : Prop := ∀ (w w1 w2 : lW) (rv1 rv2 : Option Value) (a0 a1 : Int32), J w → fLr r_X11_as [.ref q1, .int a0, .int a1] w rv1 w1 → fLr r_X12_as [.ref q2, .int a0, .int a1] w1 rv2 w2 → J w2
def pq_tell (q1 q2 : Nat) (J : lW → Prop) : Prop := ∀ (w w1 w2 : lW) (rv1 rv2 : Option Value) (a0 : Int32), J w → fLr r_X11_tell [.ref q1, .int a0] w rv1 w1 → fLr r_X12_tell [.ref q2, .int a0] w1 rv2 w2 → J w2
def pq_show (q1 q2 : Nat) (J : lW → Prop) : Prop := ∀ (w w1 w2 : lW) (rv1 rv2 : Option Value) (a0 : Int32), J w → fLr r_X11_show [.ref q1, .int a0] w rv1 w1 → fLr r_X12_show [.ref q2, .int a0] w1 rv2 w2 → J w2
def pq_sheet (q1 q2 : Nat) (J : lW → Prop) : Prop := ∀ (w w1 w2 : lW) (rv1 rv2 : Option Value) (a0 a1 a2 : Int32), J w → fLr r_X11_sheet [.ref q1, .int a0, .int a1, .int a2] w rv1 w1 → fLr r_X12_sheet [.ref q2, .int a0, .int a1, .int a2] w1 rv2 w2 → J w2
def pq_lose (q1 q2 : Nat) (J : lW → Prop) : Prop := ∀ (w w1 w2 : lW) (rv1 rv2 : Option Value) (a0 : Int32), J w → fLr r_X11_lose [.ref q1, .int a0] w rv1 w1 → fLr r_X12_lose [.ref q2, .int a0] w1 rv2 w2 → J w2
def pq_put (q1 q2 : Nat) (J : lW → Prop) : Prop := ∀ (w w1 w2 : lW) (rv1 rv2 : Option Value) (a0 a1 a2 : Int32), J w → fLr r_X11_put [.ref q1, .int a0, .int a1, .int a2] w rv1 w1 → fLr r_X12_put [.ref q2, .int a0, .int a1, .int a2] w1 rv2 w2 → J w2
def pq_cell (q1 q2 : Nat) (J : lW → Prop) : Prop := ∀ (w w1 w2 : lW) (rv1 rv2 : Option Value) (a0 a1 a2 : Int32), J w → fLr r_X11_cell [.ref q1, .int a0, .int a1, .int a2] w rv1 w1 → fLr r_X12_cell [.ref q2, .int a0, .int a1, .int a2] w1 rv2 w2 → J w2
def pq_copy (q1 q2 : Nat) (J : lW → Prop) : Prop := ∀ (w w1 w2 : lW) (rv1 rv2 : Option Value) (a0 a1 a2 a3 a4 : Int32), J w → fLr r_X11_copy [.ref q1, .int a0, .int a1, .int a2, .int a3, .int a4] w rv1 w1 → fLr r_X12_copy [.ref q2, .int a0, .int a1, .int a2, .int a3, .int a4] w1 rv2 w2 → J w2
def pq_trace (q1 q2 : Nat) (J : lW → Prop) : Prop := ∀ (w w1 w2 : lW) (rv1 rv2 : Option Value), J w → fLr r_X11_trace [.ref q1] w rv1 w1 → fLr r_X12_trace [.ref q2] w1 rv2 w2 → J w2
def pq_fault (q1 q2 : Nat) (J : lW → Prop) : Prop := ∀ (w w1 w2 : lW) (rv1 rv2 : Option Value), J w → fLr r_X11_fault [.ref q1] w rv1 w1 → fLr r_X12_fault [.ref q2] w1 rv2 w2 → J w2
def pq_many (q1 q2 : Nat) (J : lW → Prop) : Prop := ∀ (w w1 w2 : lW) (rv1 rv2 : Option Value) (a0 : Int32), J w → fLr r_X11_many [.ref q1, .int a0] w rv1 w1 → fLr r_X12_many [.ref q2, .int a0] w1 rv2 w2 → J w2
set_option maxHeartbeats 4000000 in
set_option maxRecDepth 100000 in
theorem lc_252 {q1 q2 b L : Nat} {xs : Nat → Int32} {J : lW → Prop} (hp : pq_read q1 q2 J) : ∀ (lg : fL_) (vs : List Value) (w : lW), I_lw q1 q2 b J lg vs w → ∃ (l : fL_) (f : Nat), f_sub l lg ∧ wh oL (T_lw b L xs) Sp_lw P_lw K_law (H_lw q1 q2 b J) f 252 l vs w := by
  rintro lg vs w ⟨i, hs, rfl, hJ⟩
  refine ⟨_, 100, hs, ?_⟩
  refine ⟨rfl, ?_⟩
  refine ⟨rfl, ?_⟩
  refine ⟨rfl, ?_⟩
  refine ⟨rfl, ?_⟩
  intro rv1 w1 h1
  obtain ⟨x1, rfl⟩ : ∃ x : Int32, rv1 = some (.int x) := h1.2.2.2.2.2
  refine ⟨rfl, ?_⟩
  refine ⟨rfl, ?_⟩
  refine ⟨rfl, ?_⟩
  refine ⟨rfl, ?_⟩
  intro rv2 w2 h2
  obtain ⟨x2, rfl⟩ : ∃ x : Int32, rv2 = some (.int x) := h2.2.2.2.2.2
  have hq := hp w w1 w2 _ _ _ _ _ _ hJ h1 h2
  exact ⟨i + 6, ⟨rfl, rfl, rfl, rfl, trivial⟩, rfl, hq⟩
set_option maxHeartbeats 4000000 in
set_option maxRecDepth 100000 in
theorem lc_305 {q1 q2 b L : Nat} {xs : Nat → Int32} {J : lW → Prop} (hp : pq_make q1 q2 J) : ∀ (lg : fL_) (vs : List Value) (w : lW), I_lw q1 q2 b J lg vs w → ∃ (l : fL_) (f : Nat), f_sub l lg ∧ wh oL (T_lw b L xs) Sp_lw P_lw K_law (H_lw q1 q2 b J) f 305 l vs w := by
  rintro lg vs w ⟨i, hs, rfl, hJ⟩
  refine ⟨_, 100, hs, ?_⟩
  refine ⟨rfl, ?_⟩
  refine ⟨rfl, ?_⟩
  refine ⟨rfl, ?_⟩
  intro rv1 w1 h1
  obtain ⟨x1, rfl⟩ : ∃ x : Int32, rv1 = some (.int x) := h1.2.2.2.2.2
  refine ⟨rfl, ?_⟩
  refine ⟨rfl, ?_⟩
  refine ⟨rfl, ?_⟩
  intro rv2 w2 h2
  obtain ⟨x2, rfl⟩ : ∃ x : Int32, rv2 = some (.int x) := h2.2.2.2.2.2
  have hq := hp w w1 w2 _ _ _ _ _ hJ h1 h2
  exact ⟨i + 6, ⟨rfl, rfl, rfl, rfl, trivial⟩, rfl, hq⟩
set_option maxHeartbeats 4000000 in
set_option maxRecDepth 100000 in
theorem lc_348 {q1 q2 b L : Nat} {xs : Nat → Int32} {J : lW → Prop} (hp : pq_worlds q1 q2 J) : ∀ (lg : fL_) (vs : List Value) (w : lW), I_lw q1 q2 b J lg vs w → ∃ (l : fL_) (f : Nat), f_sub l lg ∧ wh oL (T_lw b L xs) Sp_lw P_lw K_law (H_lw q1 q2 b J) f 348 l vs w := by
  rintro lg vs w ⟨i, hs, rfl, hJ⟩
  refine ⟨_, 100, hs, ?_⟩
  refine ⟨rfl, ?_⟩
  intro rv1 w1 h1
  obtain ⟨x1, rfl⟩ : ∃ x : Int32, rv1 = some (.int x) := h1.2.2.2.2.2
  refine ⟨rfl, ?_⟩
  intro rv2 w2 h2
  obtain ⟨x2, rfl⟩ : ∃ x : Int32, rv2 = some (.int x) := h2.2.2.2.2.2
  have hq := hp w w1 w2 _ _ _ hJ h1 h2
  exact ⟨i + 6, ⟨rfl, rfl, rfl, rfl, trivial⟩, rfl, hq⟩
set_option maxHeartbeats 4000000 in
set_option maxRecDepth 100000 in
theorem lc_371 {q1 q2 b L : Nat} {xs : Nat → Int32} {J : lW → Prop} (hp : pq_truth q1 q2 J) : ∀ (lg : fL_) (vs : List Value) (w : lW), I_lw q1 q2 b J lg vs w → ∃ (l : fL_) (f : Nat), f_sub l lg ∧ wh oL (T_lw b L xs) Sp_lw P_lw K_law (H_lw q1 q2 b J) f 371 l vs w := by
  rintro lg vs w ⟨i, hs, rfl, hJ⟩
  refine ⟨_, 100, hs, ?_⟩
  refine ⟨rfl, ?_⟩
  refine ⟨rfl, ?_⟩
  intro rv1 w1 h1
  obtain ⟨x1, rfl⟩ : ∃ x : Int32, rv1 = some (.int x) := h1.2.2.2.2.2
  refine ⟨rfl, ?_⟩
  refine ⟨rfl, ?_⟩
  intro rv2 w2 h2
  obtain ⟨x2, rfl⟩ : ∃ x : Int32, rv2 = some (.int x) := h2.2.2.2.2.2
  have hq := hp w w1 w2 _ _ _ _ hJ h1 h2
  exact ⟨i + 6, ⟨rfl, rfl, rfl, rfl, trivial⟩, rfl, hq⟩
set_option maxHeartbeats 4000000 in
set_option maxRecDepth 100000 in
theorem lc_404 {q1 q2 b L : Nat} {xs : Nat → Int32} {J : lW → Prop} (hp : pq_compare q1 q2 J) : ∀ (lg : fL_) (vs : List Value) (w : lW), I_lw q1 q2 b J lg vs w → ∃ (l : fL_) (f : Nat), f_sub l lg ∧ wh oL (T_lw b L xs) Sp_lw P_lw K_law (H_lw q1 q2 b J) f 404 l vs w := by
  rintro lg vs w ⟨i, hs, rfl, hJ⟩
  refine ⟨_, 100, hs, ?_⟩
  refine ⟨rfl, ?_⟩
  refine ⟨rfl, ?_⟩
  intro rv1 w1 h1
  obtain ⟨x1, rfl⟩ : ∃ x : Int32, rv1 = some (.int x) := h1.2.2.2.2.2
  refine ⟨rfl, ?_⟩
  refine ⟨rfl, ?_⟩
  intro rv2 w2 h2
  obtain ⟨x2, rfl⟩ : ∃ x : Int32, rv2 = some (.int x) := h2.2.2.2.2.2
  have hq := hp w w1 w2 _ _ _ _ hJ h1 h2
  exact ⟨i + 6, ⟨rfl, rfl, rfl, rfl, trivial⟩, rfl, hq⟩
set_option maxHeartbeats 4000000 in
set_option maxRecDepth 100000 in
theorem lc_437 {q1 q2 b L : Nat} {xs : Nat → Int32} {J : lW → Prop} (hp : pq_trust q1 q2 J) : ∀ (lg : fL_) (vs : List Value) (w : lW), I_lw q1 q2 b J lg vs w → ∃ (l : fL_) (f : Nat), f_sub l lg ∧ wh oL (T_lw b L xs) Sp_lw P_lw K_law (H_lw q1 q2 b J) f 437 l vs w := by
  rintro lg vs w ⟨i, hs, rfl, hJ⟩
  refine ⟨_, 100, hs, ?_⟩
  refine ⟨rfl, ?_⟩
  refine ⟨rfl, ?_⟩
  intro rv1 w1 h1
  obtain ⟨x1, rfl⟩ : ∃ x : Int32, rv1 = some (.int x) := h1.2.2.2.2.2
  refine ⟨rfl, ?_⟩
  refine ⟨rfl, ?_⟩
  intro rv2 w2 h2
  obtain ⟨x2, rfl⟩ : ∃ x : Int32, rv2 = some (.int x) := h2.2.2.2.2.2
  have hq := hp w w1 w2 _ _ _ _ hJ h1 h2
  exact ⟨i + 6, ⟨rfl, rfl, rfl, rfl, trivial⟩, rfl, hq⟩
set_option maxHeartbeats 4000000 in
set_option maxRecDepth 100000 in
theorem lc_470 {q1 q2 b L : Nat} {xs : Nat → Int32} {J : lW → Prop} (hp : pq_hold q1 q2 J) : ∀ (lg : fL_) (vs : List Value) (w : lW), I_lw q1 q2 b J lg vs w → ∃ (l : fL_) (f : Nat), f_sub l lg ∧ wh oL (T_lw b L xs) Sp_lw P_lw K_law (H_lw q1 q2 b J) f 470 l vs w := by
  rintro lg vs w ⟨i, hs, rfl, hJ⟩
  refine ⟨_, 100, hs, ?_⟩
  refine ⟨rfl, ?_⟩
  refine ⟨rfl, ?_⟩
  refine ⟨rfl, ?_⟩
  refine ⟨rfl, ?_⟩
  refine ⟨rfl, ?_⟩
  intro rv1 w1 h1
  obtain ⟨x1, rfl⟩ : ∃ x : Int32, rv1 = some (.int x) := h1.2.2.2.2.2
  refine ⟨rfl, ?_⟩
  refine ⟨rfl, ?_⟩
  refine ⟨rfl, ?_⟩
  refine ⟨rfl, ?_⟩
  refine ⟨rfl, ?_⟩
  intro rv2 w2 h2
  obtain ⟨x2, rfl⟩ : ∃ x : Int32, rv2 = some (.int x) := h2.2.2.2.2.2
  have hq := hp w w1 w2 _ _ _ _ _ _ _ hJ h1 h2
  exact ⟨i + 6, ⟨rfl, rfl, rfl, rfl, trivial⟩, rfl, hq⟩
set_option maxHeartbeats 4000000 in
set_option maxRecDepth 100000 in
theorem lc_533 {q1 q2 b L : Nat} {xs : Nat → Int32} {J : lW → Prop} (hp : pq_view q1 q2 J) : ∀ (lg : fL_) (vs : List Value) (w : lW), I_lw q1 q2 b J lg vs w → ∃ (l : fL_) (f : Nat), f_sub l lg ∧ wh oL (T_lw b L xs) Sp_lw P_lw K_law (H_lw q1 q2 b J) f 533 l vs w := by
  rintro lg vs w ⟨i, hs, rfl, hJ⟩
  refine ⟨_, 100, hs, ?_⟩
  refine ⟨rfl, ?_⟩
  refine ⟨rfl, ?_⟩
  intro rv1 w1 h1
  obtain ⟨x1, rfl⟩ : ∃ x : Int32, rv1 = some (.int x) := h1.2.2.2.2.2
  refine ⟨rfl, ?_⟩
  refine ⟨rfl, ?_⟩
  intro rv2 w2 h2
  obtain ⟨x2, rfl⟩ : ∃ x : Int32, rv2 = some (.int x) := h2.2.2.2.2.2
  have hq := hp w w1 w2 _ _ _ _ hJ h1 h2
  exact ⟨i + 6, ⟨rfl, rfl, rfl, rfl, trivial⟩, rfl, hq⟩
set_option maxHeartbeats 4000000 in
set_option maxRecDepth 100000 in
theorem lc_566 {q1 q2 b L : Nat} {xs : Nat → Int32} {J : lW → Prop} (hp : pq_entry q1 q2 J) : ∀ (lg : fL_) (vs : List Value) (w : lW), I_lw q1 q2 b J lg vs w → ∃ (l : fL_) (f : Nat), f_sub l lg ∧ wh oL (T_lw b L xs) Sp_lw P_lw K_law (H_lw q1 q2 b J) f 566 l vs w := by
  rintro lg vs w ⟨i, hs, rfl, hJ⟩
  refine ⟨_, 100, hs, ?_⟩
  refine ⟨rfl, ?_⟩
  refine ⟨rfl, ?_⟩
  intro rv1 w1 h1
  obtain ⟨x1, rfl⟩ : ∃ x : Int32, rv1 = some (.int x) := h1.2.2.2.2.2
  refine ⟨rfl, ?_⟩
  refine ⟨rfl, ?_⟩
  intro rv2 w2 h2
  obtain ⟨x2, rfl⟩ : ∃ x : Int32, rv2 = some (.int x) := h2.2.2.2.2.2
  have hq := hp w w1 w2 _ _ _ _ hJ h1 h2
  exact ⟨i + 6, ⟨rfl, rfl, rfl, rfl, trivial⟩, rfl, hq⟩
set_option maxHeartbeats 4000000 in
set_option maxRecDepth 100000 in
theorem lc_599 {q1 q2 b L : Nat} {xs : Nat → Int32} {J : lW → Prop} (hp : pq_drop q1 q2 J) : ∀ (lg : fL_) (vs : List Value) (w : lW), I_lw q1 q2 b J lg vs w → ∃ (l : fL_) (f : Nat), f_sub l lg ∧ wh oL (T_lw b L xs) Sp_lw P_lw K_law (H_lw q1 q2 b J) f 599 l vs w := by
  rintro lg vs w ⟨i, hs, rfl, hJ⟩
  refine ⟨_, 100, hs, ?_⟩
  refine ⟨rfl, ?_⟩
  refine ⟨rfl, ?_⟩
  intro rv1 w1 h1
  obtain ⟨x1, rfl⟩ : ∃ x : Int32, rv1 = some (.int x) := h1.2.2.2.2.2
  refine ⟨rfl, ?_⟩
  refine ⟨rfl, ?_⟩
  intro rv2 w2 h2
  obtain ⟨x2, rfl⟩ : ∃ x : Int32, rv2 = some (.int x) := h2.2.2.2.2.2
  have hq := hp w w1 w2 _ _ _ _ hJ h1 h2
  exact ⟨i + 6, ⟨rfl, rfl, rfl, rfl, trivial⟩, rfl, hq⟩
set_option maxHeartbeats 4000000 in
set_option maxRecDepth 100000 in
theorem lc_632 {q1 q2 b L : Nat} {xs : Nat → Int32} {J : lW → Prop} (hp : pq_weight q1 q2 J) : ∀ (lg : fL_) (vs : List Value) (w : lW), I_lw q1 q2 b J lg vs w → ∃ (l : fL_) (f : Nat), f_sub l lg ∧ wh oL (T_lw b L xs) Sp_lw P_lw K_law (H_lw q1 q2 b J) f 632 l vs w := by
  rintro lg vs w ⟨i, hs, rfl, hJ⟩
  refine ⟨_, 100, hs, ?_⟩
  refine ⟨rfl, ?_⟩
  intro rv1 w1 h1
  obtain ⟨x1, rfl⟩ : ∃ x : Int32, rv1 = some (.int x) := h1.2.2.2.2.2
  refine ⟨rfl, ?_⟩
  intro rv2 w2 h2
  obtain ⟨x2, rfl⟩ : ∃ x : Int32, rv2 = some (.int x) := h2.2.2.2.2.2
  have hq := hp w w1 w2 _ _ _ hJ h1 h2
  exact ⟨i + 6, ⟨rfl, rfl, rfl, rfl, trivial⟩, rfl, hq⟩
set_option maxHeartbeats 4000000 in
set_option maxRecDepth 100000 in
theorem lc_655 {q1 q2 b L : Nat} {xs : Nat → Int32} {J : lW → Prop} (hp : pq_together q1 q2 J) : ∀ (lg : fL_) (vs : List Value) (w : lW), I_lw q1 q2 b J lg vs w → ∃ (l : fL_) (f : Nat), f_sub l lg ∧ wh oL (T_lw b L xs) Sp_lw P_lw K_law (H_lw q1 q2 b J) f 655 l vs w := by
  rintro lg vs w ⟨i, hs, rfl, hJ⟩
  refine ⟨_, 100, hs, ?_⟩
  refine ⟨rfl, ?_⟩
  intro rv1 w1 h1
  obtain ⟨x1, rfl⟩ : ∃ x : Int32, rv1 = some (.int x) := h1.2.2.2.2.2
  refine ⟨rfl, ?_⟩
  intro rv2 w2 h2
  obtain ⟨x2, rfl⟩ : ∃ x : Int32, rv2 = some (.int x) := h2.2.2.2.2.2
  have hq := hp w w1 w2 _ _ _ hJ h1 h2
  exact ⟨i + 6, ⟨rfl, rfl, rfl, rfl, trivial⟩, rfl, hq⟩
set_option maxHeartbeats 4000000 in
set_option maxRecDepth 100000 in
theorem lc_678 {q1 q2 b L : Nat} {xs : Nat → Int32} {J : lW → Prop} (hp : pq_reasons q1 q2 J) : ∀ (lg : fL_) (vs : List Value) (w : lW), I_lw q1 q2 b J lg vs w → ∃ (l : fL_) (f : Nat), f_sub l lg ∧ wh oL (T_lw b L xs) Sp_lw P_lw K_law (H_lw q1 q2 b J) f 678 l vs w := by
  rintro lg vs w ⟨i, hs, rfl, hJ⟩
  refine ⟨_, 100, hs, ?_⟩
  refine ⟨rfl, ?_⟩
  refine ⟨rfl, ?_⟩
  intro rv1 w1 h1
  obtain ⟨x1, rfl⟩ : ∃ x : Int32, rv1 = some (.int x) := h1.2.2.2.2.2
  refine ⟨rfl, ?_⟩
  refine ⟨rfl, ?_⟩
  intro rv2 w2 h2
  obtain ⟨x2, rfl⟩ : ∃ x : Int32, rv2 = some (.int x) := h2.2.2.2.2.2
  have hq := hp w w1 w2 _ _ _ _ hJ h1 h2
  exact ⟨i + 6, ⟨rfl, rfl, rfl, rfl, trivial⟩, rfl, hq⟩
set_option maxHeartbeats 4000000 in
set_option maxRecDepth 100000 in
theorem lc_711 {q1 q2 b L : Nat} {xs : Nat → Int32} {J : lW → Prop} (hp : pq_reason q1 q2 J) : ∀ (lg : fL_) (vs : List Value) (w : lW), I_lw q1 q2 b J lg vs w → ∃ (l : fL_) (f : Nat), f_sub l lg ∧ wh oL (T_lw b L xs) Sp_lw P_lw K_law (H_lw q1 q2 b J) f 711 l vs w := by
  rintro lg vs w ⟨i, hs, rfl, hJ⟩
  refine ⟨_, 100, hs, ?_⟩
  refine ⟨rfl, ?_⟩
  refine ⟨rfl, ?_⟩
  refine ⟨rfl, ?_⟩
  intro rv1 w1 h1
  obtain ⟨x1, rfl⟩ : ∃ x : Int32, rv1 = some (.int x) := h1.2.2.2.2.2
  refine ⟨rfl, ?_⟩
  refine ⟨rfl, ?_⟩
  refine ⟨rfl, ?_⟩
  intro rv2 w2 h2
  obtain ⟨x2, rfl⟩ : ∃ x : Int32, rv2 = some (.int x) := h2.2.2.2.2.2
  have hq := hp w w1 w2 _ _ _ _ _ hJ h1 h2
  exact ⟨i + 6, ⟨rfl, rfl, rfl, rfl, trivial⟩, rfl, hq⟩
set_option maxHeartbeats 4000000 in
set_option maxRecDepth 100000 in
theorem lc_754 {q1 q2 b L : Nat} {xs : Nat → Int32} {J : lW → Prop} (hp : pq_harmonies q1 q2 J) : ∀ (lg : fL_) (vs : List Value) (w : lW), I_lw q1 q2 b J lg vs w → ∃ (l : fL_) (f : Nat), f_sub l lg ∧ wh oL (T_lw b L xs) Sp_lw P_lw K_law (H_lw q1 q2 b J) f 754 l vs w := by
  rintro lg vs w ⟨i, hs, rfl, hJ⟩
  refine ⟨_, 100, hs, ?_⟩
  refine ⟨rfl, ?_⟩
  intro rv1 w1 h1
  obtain ⟨x1, rfl⟩ : ∃ x : Int32, rv1 = some (.int x) := h1.2.2.2.2.2
  refine ⟨rfl, ?_⟩
  intro rv2 w2 h2
  obtain ⟨x2, rfl⟩ : ∃ x : Int32, rv2 = some (.int x) := h2.2.2.2.2.2
  have hq := hp w w1 w2 _ _ _ hJ h1 h2
  exact ⟨i + 6, ⟨rfl, rfl, rfl, rfl, trivial⟩, rfl, hq⟩
set_option maxHeartbeats 4000000 in
set_option maxRecDepth 100000 in
theorem lc_777 {q1 q2 b L : Nat} {xs : Nat → Int32} {J : lW → Prop} (hp : pq_harmony q1 q2 J) : ∀ (lg : fL_) (vs : List Value) (w : lW), I_lw q1 q2 b J lg vs w → ∃ (l : fL_) (f : Nat), f_sub l lg ∧ wh oL (T_lw b L xs) Sp_lw P_lw K_law (H_lw q1 q2 b J) f 777 l vs w := by
  rintro lg vs w ⟨i, hs, rfl, hJ⟩
  refine ⟨_, 100, hs, ?_⟩
  refine ⟨rfl, ?_⟩
  refine ⟨rfl, ?_⟩
  intro rv1 w1 h1
  obtain ⟨x1, rfl⟩ : ∃ x : Int32, rv1 = some (.int x) := h1.2.2.2.2.2
  refine ⟨rfl, ?_⟩
  refine ⟨rfl, ?_⟩
  intro rv2 w2 h2
  obtain ⟨x2, rfl⟩ : ∃ x : Int32, rv2 = some (.int x) := h2.2.2.2.2.2
  have hq := hp w w1 w2 _ _ _ _ hJ h1 h2
  exact ⟨i + 6, ⟨rfl, rfl, rfl, rfl, trivial⟩, rfl, hq⟩
set_option maxHeartbeats 4000000 in
set_option maxRecDepth 100000 in
theorem lc_810 {q1 q2 b L : Nat} {xs : Nat → Int32} {J : lW → Prop} (hp : pq_held q1 q2 J) : ∀ (lg : fL_) (vs : List Value) (w : lW), I_lw q1 q2 b J lg vs w → ∃ (l : fL_) (f : Nat), f_sub l lg ∧ wh oL (T_lw b L xs) Sp_lw P_lw K_law (H_lw q1 q2 b J) f 810 l vs w := by
  rintro lg vs w ⟨i, hs, rfl, hJ⟩
  refine ⟨_, 100, hs, ?_⟩
  refine ⟨rfl, ?_⟩
  refine ⟨rfl, ?_⟩
  intro rv1 w1 h1
  obtain ⟨x1, rfl⟩ : ∃ x : Int32, rv1 = some (.int x) := h1.2.2.2.2.2
  refine ⟨rfl, ?_⟩
  refine ⟨rfl, ?_⟩
  intro rv2 w2 h2
  obtain ⟨x2, rfl⟩ : ∃ x : Int32, rv2 = some (.int x) := h2.2.2.2.2.2
  have hq := hp w w1 w2 _ _ _ _ hJ h1 h2
  exact ⟨i + 6, ⟨rfl, rfl, rfl, rfl, trivial⟩, rfl, hq⟩
set_option maxHeartbeats 4000000 in
set_option maxRecDepth 100000 in
theorem lc_843 {q1 q2 b L : Nat} {xs : Nat → Int32} {J : lW → Prop} (hp : pq_cuts q1 q2 J) : ∀ (lg : fL_) (vs : List Value) (w : lW), I_lw q1 q2 b J lg vs w → ∃ (l : fL_) (f : Nat), f_sub l lg ∧ wh oL (T_lw b L xs) Sp_lw P_lw K_law (H_lw q1 q2 b J) f 843 l vs w := by
  rintro lg vs w ⟨i, hs, rfl, hJ⟩
  refine ⟨_, 100, hs, ?_⟩
  refine ⟨rfl, ?_⟩
  intro rv1 w1 h1
  obtain ⟨x1, rfl⟩ : ∃ x : Int32, rv1 = some (.int x) := h1.2.2.2.2.2
  refine ⟨rfl, ?_⟩
  intro rv2 w2 h2
  obtain ⟨x2, rfl⟩ : ∃ x : Int32, rv2 = some (.int x) := h2.2.2.2.2.2
  have hq := hp w w1 w2 _ _ _ hJ h1 h2
  exact ⟨i + 6, ⟨rfl, rfl, rfl, rfl, trivial⟩, rfl, hq⟩
set_option maxHeartbeats 4000000 in
set_option maxRecDepth 100000 in
theorem lc_866 {q1 q2 b L : Nat} {xs : Nat → Int32} {J : lW → Prop} (hp : pq_cutOf q1 q2 J) : ∀ (lg : fL_) (vs : List Value) (w : lW), I_lw q1 q2 b J lg vs w → ∃ (l : fL_) (f : Nat), f_sub l lg ∧ wh oL (T_lw b L xs) Sp_lw P_lw K_law (H_lw q1 q2 b J) f 866 l vs w := by
  rintro lg vs w ⟨i, hs, rfl, hJ⟩
  refine ⟨_, 100, hs, ?_⟩
  refine ⟨rfl, ?_⟩
  refine ⟨rfl, ?_⟩
  intro rv1 w1 h1
  obtain ⟨x1, rfl⟩ : ∃ x : Int32, rv1 = some (.int x) := h1.2.2.2.2.2
  refine ⟨rfl, ?_⟩
  refine ⟨rfl, ?_⟩
  intro rv2 w2 h2
  obtain ⟨x2, rfl⟩ : ∃ x : Int32, rv2 = some (.int x) := h2.2.2.2.2.2
  have hq := hp w w1 w2 _ _ _ _ hJ h1 h2
  exact ⟨i + 6, ⟨rfl, rfl, rfl, rfl, trivial⟩, rfl, hq⟩
set_option maxHeartbeats 4000000 in
set_option maxRecDepth 100000 in
theorem lc_899 {q1 q2 b L : Nat} {xs : Nat → Int32} {J : lW → Prop} (hp : pq_least q1 q2 J) : ∀ (lg : fL_) (vs : List Value) (w : lW), I_lw q1 q2 b J lg vs w → ∃ (l : fL_) (f : Nat), f_sub l lg ∧ wh oL (T_lw b L xs) Sp_lw P_lw K_law (H_lw q1 q2 b J) f 899 l vs w := by
  rintro lg vs w ⟨i, hs, rfl, hJ⟩
  refine ⟨_, 100, hs, ?_⟩
  refine ⟨rfl, ?_⟩
  intro rv1 w1 h1
  obtain ⟨x1, rfl⟩ : ∃ x : Int32, rv1 = some (.int x) := h1.2.2.2.2.2
  refine ⟨rfl, ?_⟩
  intro rv2 w2 h2
  obtain ⟨x2, rfl⟩ : ∃ x : Int32, rv2 = some (.int x) := h2.2.2.2.2.2
  have hq := hp w w1 w2 _ _ _ hJ h1 h2
  exact ⟨i + 6, ⟨rfl, rfl, rfl, rfl, trivial⟩, rfl, hq⟩
set_option maxHeartbeats 4000000 in
set_option maxRecDepth 100000 in
theorem lc_922 {q1 q2 b L : Nat} {xs : Nat → Int32} {J : lW → Prop} (hp : pq_giveUp q1 q2 J) : ∀ (lg : fL_) (vs : List Value) (w : lW), I_lw q1 q2 b J lg vs w → ∃ (l : fL_) (f : Nat), f_sub l lg ∧ wh oL (T_lw b L xs) Sp_lw P_lw K_law (H_lw q1 q2 b J) f 922 l vs w := by
  rintro lg vs w ⟨i, hs, rfl, hJ⟩
  refine ⟨_, 100, hs, ?_⟩
  refine ⟨rfl, ?_⟩
  intro rv1 w1 h1
  obtain ⟨x1, rfl⟩ : ∃ x : Int32, rv1 = some (.int x) := h1.2.2.2.2.2
  refine ⟨rfl, ?_⟩
  intro rv2 w2 h2
  obtain ⟨x2, rfl⟩ : ∃ x : Int32, rv2 = some (.int x) := h2.2.2.2.2.2
  have hq := hp w w1 w2 _ _ _ hJ h1 h2
  exact ⟨i + 6, ⟨rfl, rfl, rfl, rfl, trivial⟩, rfl, hq⟩
set_option maxHeartbeats 4000000 in
set_option maxRecDepth 100000 in
theorem lc_945 {q1 q2 b L : Nat} {xs : Nat → Int32} {J : lW → Prop} (hp : pq_news q1 q2 J) : ∀ (lg : fL_) (vs : List Value) (w : lW), I_lw q1 q2 b J lg vs w → ∃ (l : fL_) (f : Nat), f_sub l lg ∧ wh oL (T_lw b L xs) Sp_lw P_lw K_law (H_lw q1 q2 b J) f 945 l vs w := by
  rintro lg vs w ⟨i, hs, rfl, hJ⟩
  refine ⟨_, 100, hs, ?_⟩
  refine ⟨rfl, ?_⟩
  refine ⟨rfl, ?_⟩
  intro rv1 w1 h1
  obtain ⟨x1, rfl⟩ : ∃ x : Int32, rv1 = some (.int x) := h1.2.2.2.2.2
  refine ⟨rfl, ?_⟩
  refine ⟨rfl, ?_⟩
  intro rv2 w2 h2
  obtain ⟨x2, rfl⟩ : ∃ x : Int32, rv2 = some (.int x) := h2.2.2.2.2.2
  have hq := hp w w1 w2 _ _ _ _ hJ h1 h2
  exact ⟨i + 6, ⟨rfl, rfl, rfl, rfl, trivial⟩, rfl, hq⟩
set_option maxHeartbeats 4000000 in
set_option maxRecDepth 100000 in
theorem lc_978 {q1 q2 b L : Nat} {xs : Nat → Int32} {J : lW → Prop} (hp : pq_postulate q1 q2 J) : ∀ (lg : fL_) (vs : List Value) (w : lW), I_lw q1 q2 b J lg vs w → ∃ (l : fL_) (f : Nat), f_sub l lg ∧ wh oL (T_lw b L xs) Sp_lw P_lw K_law (H_lw q1 q2 b J) f 978 l vs w := by
  rintro lg vs w ⟨i, hs, rfl, hJ⟩
  refine ⟨_, 100, hs, ?_⟩
  refine ⟨rfl, ?_⟩
  refine ⟨rfl, ?_⟩
  intro rv1 w1 h1
  obtain ⟨x1, rfl⟩ : ∃ x : Int32, rv1 = some (.int x) := h1.2.2.2.2.2
  refine ⟨rfl, ?_⟩
  refine ⟨rfl, ?_⟩
  intro rv2 w2 h2
  obtain ⟨x2, rfl⟩ : ∃ x : Int32, rv2 = some (.int x) := h2.2.2.2.2.2
  have hq := hp w w1 w2 _ _ _ _ hJ h1 h2
  exact ⟨i + 6, ⟨rfl, rfl, rfl, rfl, trivial⟩, rfl, hq⟩
set_option maxHeartbeats 4000000 in
set_option maxRecDepth 100000 in
theorem lc_1011 {q1 q2 b L : Nat} {xs : Nat → Int32} {J : lW → Prop} (hp : pq_rule q1 q2 J) : ∀ (lg : fL_) (vs : List Value) (w : lW), I_lw q1 q2 b J lg vs w → ∃ (l : fL_) (f : Nat), f_sub l lg ∧ wh oL (T_lw b L xs) Sp_lw P_lw K_law (H_lw q1 q2 b J) f 1011 l vs w := by
  rintro lg vs w ⟨i, hs, rfl, hJ⟩
  refine ⟨_, 100, hs, ?_⟩
  refine ⟨rfl, ?_⟩
  refine ⟨rfl, ?_⟩
  refine ⟨rfl, ?_⟩
  refine ⟨rfl, ?_⟩
  refine ⟨rfl, ?_⟩
  intro rv1 w1 h1
  obtain ⟨x1, rfl⟩ : ∃ x : Int32, rv1 = some (.int x) := h1.2.2.2.2.2
  refine ⟨rfl, ?_⟩
  refine ⟨rfl, ?_⟩
  refine ⟨rfl, ?_⟩
  refine ⟨rfl, ?_⟩
  refine ⟨rfl, ?_⟩
  intro rv2 w2 h2
  obtain ⟨x2, rfl⟩ : ∃ x : Int32, rv2 = some (.int x) := h2.2.2.2.2.2
  have hq := hp w w1 w2 _ _ _ _ _ _ _ hJ h1 h2
  exact ⟨i + 6, ⟨rfl, rfl, rfl, rfl, trivial⟩, rfl, hq⟩
set_option maxHeartbeats 4000000 in
set_option maxRecDepth 100000 in
theorem lc_1074 {q1 q2 b L : Nat} {xs : Nat → Int32} {J : lW → Prop} (hp : pq_ruled q1 q2 J) : ∀ (lg : fL_) (vs : List Value) (w : lW), I_lw q1 q2 b J lg vs w → ∃ (l : fL_) (f : Nat), f_sub l lg ∧ wh oL (T_lw b L xs) Sp_lw P_lw K_law (H_lw q1 q2 b J) f 1074 l vs w := by
  rintro lg vs w ⟨i, hs, rfl, hJ⟩
  refine ⟨_, 100, hs, ?_⟩
  refine ⟨rfl, ?_⟩
  refine ⟨rfl, ?_⟩
  intro rv1 w1 h1
  obtain ⟨x1, rfl⟩ : ∃ x : Int32, rv1 = some (.int x) := h1.2.2.2.2.2
  refine ⟨rfl, ?_⟩
  refine ⟨rfl, ?_⟩
  intro rv2 w2 h2
  obtain ⟨x2, rfl⟩ : ∃ x : Int32, rv2 = some (.int x) := h2.2.2.2.2.2
  have hq := hp w w1 w2 _ _ _ _ hJ h1 h2
  exact ⟨i + 6, ⟨rfl, rfl, rfl, rfl, trivial⟩, rfl, hq⟩
set_option maxHeartbeats 4000000 in
set_option maxRecDepth 100000 in
theorem lc_1107 {q1 q2 b L : Nat} {xs : Nat → Int32} {J : lW → Prop} (hp : pq_extensions q1 q2 J) : ∀ (lg : fL_) (vs : List Value) (w : lW), I_lw q1 q2 b J lg vs w → ∃ (l : fL_) (f : Nat), f_sub l lg ∧ wh oL (T_lw b L xs) Sp_lw P_lw K_law (H_lw q1 q2 b J) f 1107 l vs w := by
  rintro lg vs w ⟨i, hs, rfl, hJ⟩
  refine ⟨_, 100, hs, ?_⟩
  refine ⟨rfl, ?_⟩
  intro rv1 w1 h1
  obtain ⟨x1, rfl⟩ : ∃ x : Int32, rv1 = some (.int x) := h1.2.2.2.2.2
  refine ⟨rfl, ?_⟩
  intro rv2 w2 h2
  obtain ⟨x2, rfl⟩ : ∃ x : Int32, rv2 = some (.int x) := h2.2.2.2.2.2
  have hq := hp w w1 w2 _ _ _ hJ h1 h2
  exact ⟨i + 6, ⟨rfl, rfl, rfl, rfl, trivial⟩, rfl, hq⟩
set_option maxHeartbeats 4000000 in
set_option maxRecDepth 100000 in
theorem lc_1130 {q1 q2 b L : Nat} {xs : Nat → Int32} {J : lW → Prop} (hp : pq_extension q1 q2 J) : ∀ (lg : fL_) (vs : List Value) (w : lW), I_lw q1 q2 b J lg vs w → ∃ (l : fL_) (f : Nat), f_sub l lg ∧ wh oL (T_lw b L xs) Sp_lw P_lw K_law (H_lw q1 q2 b J) f 1130 l vs w := by
  rintro lg vs w ⟨i, hs, rfl, hJ⟩
  refine ⟨_, 100, hs, ?_⟩
  refine ⟨rfl, ?_⟩
  refine ⟨rfl, ?_⟩
  intro rv1 w1 h1
  obtain ⟨x1, rfl⟩ : ∃ x : Int32, rv1 = some (.int x) := h1.2.2.2.2.2
  refine ⟨rfl, ?_⟩
  refine ⟨rfl, ?_⟩
  intro rv2 w2 h2
  obtain ⟨x2, rfl⟩ : ∃ x : Int32, rv2 = some (.int x) := h2.2.2.2.2.2
  have hq := hp w w1 w2 _ _ _ _ hJ h1 h2
  exact ⟨i + 6, ⟨rfl, rfl, rfl, rfl, trivial⟩, rfl, hq⟩
set_option maxHeartbeats 4000000 in
set_option maxRecDepth 100000 in
theorem lc_1163 {q1 q2 b L : Nat} {xs : Nat → Int32} {J : lW → Prop} (hp : pq_concluded q1 q2 J) : ∀ (lg : fL_) (vs : List Value) (w : lW), I_lw q1 q2 b J lg vs w → ∃ (l : fL_) (f : Nat), f_sub l lg ∧ wh oL (T_lw b L xs) Sp_lw P_lw K_law (H_lw q1 q2 b J) f 1163 l vs w := by
  rintro lg vs w ⟨i, hs, rfl, hJ⟩
  refine ⟨_, 100, hs, ?_⟩
  refine ⟨rfl, ?_⟩
  refine ⟨rfl, ?_⟩
  intro rv1 w1 h1
  obtain ⟨x1, rfl⟩ : ∃ x : Int32, rv1 = some (.int x) := h1.2.2.2.2.2
  refine ⟨rfl, ?_⟩
  refine ⟨rfl, ?_⟩
  intro rv2 w2 h2
  obtain ⟨x2, rfl⟩ : ∃ x : Int32, rv2 = some (.int x) := h2.2.2.2.2.2
  have hq := hp w w1 w2 _ _ _ _ hJ h1 h2
  exact ⟨i + 6, ⟨rfl, rfl, rfl, rfl, trivial⟩, rfl, hq⟩
set_option maxHeartbeats 4000000 in
set_option maxRecDepth 100000 in
theorem lc_1196 {q1 q2 b L : Nat} {xs : Nat → Int32} {J : lW → Prop} (hp : pq_claim q1 q2 J) : ∀ (lg : fL_) (vs : List Value) (w : lW), I_lw q1 q2 b J lg vs w → ∃ (l : fL_) (f : Nat), f_sub l lg ∧ wh oL (T_lw b L xs) Sp_lw P_lw K_law (H_lw q1 q2 b J) f 1196 l vs w := by
  rintro lg vs w ⟨i, hs, rfl, hJ⟩
  refine ⟨_, 100, hs, ?_⟩
  refine ⟨rfl, ?_⟩
  refine ⟨rfl, ?_⟩
  intro rv1 w1 h1
  obtain ⟨x1, rfl⟩ : ∃ x : Int32, rv1 = some (.int x) := h1.2.2.2.2.2
  refine ⟨rfl, ?_⟩
  refine ⟨rfl, ?_⟩
  intro rv2 w2 h2
  obtain ⟨x2, rfl⟩ : ∃ x : Int32, rv2 = some (.int x) := h2.2.2.2.2.2
  have hq := hp w w1 w2 _ _ _ _ hJ h1 h2
  obtain ⟨e, hJ2⟩ := hq
  have e : x1 = x2 := by injection e with e; injection e
  subst e
  refine ⟨fun hc => ?_, fun hc => ?_⟩
  · exact ⟨i + 6, ⟨rfl, rfl, rfl, rfl, trivial⟩, rfl, hJ2⟩
  · exact absurd rfl hc
set_option maxHeartbeats 4000000 in
set_option maxRecDepth 100000 in
theorem lc_1229 {q1 q2 b L : Nat} {xs : Nat → Int32} {J : lW → Prop} (hp : pq_strikes q1 q2 J) : ∀ (lg : fL_) (vs : List Value) (w : lW), I_lw q1 q2 b J lg vs w → ∃ (l : fL_) (f : Nat), f_sub l lg ∧ wh oL (T_lw b L xs) Sp_lw P_lw K_law (H_lw q1 q2 b J) f 1229 l vs w := by
  rintro lg vs w ⟨i, hs, rfl, hJ⟩
  refine ⟨_, 100, hs, ?_⟩
  refine ⟨rfl, ?_⟩
  refine ⟨rfl, ?_⟩
  intro rv1 w1 h1
  obtain ⟨x1, rfl⟩ : ∃ x : Int32, rv1 = some (.int x) := h1.2.2.2.2.2
  refine ⟨rfl, ?_⟩
  refine ⟨rfl, ?_⟩
  intro rv2 w2 h2
  obtain ⟨x2, rfl⟩ : ∃ x : Int32, rv2 = some (.int x) := h2.2.2.2.2.2
  have hq := hp w w1 w2 _ _ _ _ hJ h1 h2
  exact ⟨i + 6, ⟨rfl, rfl, rfl, rfl, trivial⟩, rfl, hq⟩
set_option maxHeartbeats 4000000 in
set_option maxRecDepth 100000 in
theorem lc_1262 {q1 q2 b L : Nat} {xs : Nat → Int32} {J : lW → Prop} (hp : pq_claimed q1 q2 J) : ∀ (lg : fL_) (vs : List Value) (w : lW), I_lw q1 q2 b J lg vs w → ∃ (l : fL_) (f : Nat), f_sub l lg ∧ wh oL (T_lw b L xs) Sp_lw P_lw K_law (H_lw q1 q2 b J) f 1262 l vs w := by
  rintro lg vs w ⟨i, hs, rfl, hJ⟩
  refine ⟨_, 100, hs, ?_⟩
  refine ⟨rfl, ?_⟩
  refine ⟨rfl, ?_⟩
  intro rv1 w1 h1
  obtain ⟨x1, rfl⟩ : ∃ x : Int32, rv1 = some (.int x) := h1.2.2.2.2.2
  refine ⟨rfl, ?_⟩
  refine ⟨rfl, ?_⟩
  intro rv2 w2 h2
  obtain ⟨x2, rfl⟩ : ∃ x : Int32, rv2 = some (.int x) := h2.2.2.2.2.2
  have hq := hp w w1 w2 _ _ _ _ hJ h1 h2
  exact ⟨i + 6, ⟨rfl, rfl, rfl, rfl, trivial⟩, rfl, hq⟩
set_option maxHeartbeats 4000000 in
set_option maxRecDepth 100000 in
theorem lc_1295 {q1 q2 b L : Nat} {xs : Nat → Int32} {J : lW → Prop} (hp : pq_sets q1 q2 J) : ∀ (lg : fL_) (vs : List Value) (w : lW), I_lw q1 q2 b J lg vs w → ∃ (l : fL_) (f : Nat), f_sub l lg ∧ wh oL (T_lw b L xs) Sp_lw P_lw K_law (H_lw q1 q2 b J) f 1295 l vs w := by
  rintro lg vs w ⟨i, hs, rfl, hJ⟩
  refine ⟨_, 100, hs, ?_⟩
  refine ⟨rfl, ?_⟩
  intro rv1 w1 h1
  obtain ⟨x1, rfl⟩ : ∃ x : Int32, rv1 = some (.int x) := h1.2.2.2.2.2
  refine ⟨rfl, ?_⟩
  intro rv2 w2 h2
  obtain ⟨x2, rfl⟩ : ∃ x : Int32, rv2 = some (.int x) := h2.2.2.2.2.2
  have hq := hp w w1 w2 _ _ _ hJ h1 h2
  exact ⟨i + 6, ⟨rfl, rfl, rfl, rfl, trivial⟩, rfl, hq⟩
set_option maxHeartbeats 4000000 in
set_option maxRecDepth 100000 in
theorem lc_1318 {q1 q2 b L : Nat} {xs : Nat → Int32} {J : lW → Prop} (hp : pq_setOf q1 q2 J) : ∀ (lg : fL_) (vs : List Value) (w : lW), I_lw q1 q2 b J lg vs w → ∃ (l : fL_) (f : Nat), f_sub l lg ∧ wh oL (T_lw b L xs) Sp_lw P_lw K_law (H_lw q1 q2 b J) f 1318 l vs w := by
  rintro lg vs w ⟨i, hs, rfl, hJ⟩
  refine ⟨_, 100, hs, ?_⟩
  refine ⟨rfl, ?_⟩
  refine ⟨rfl, ?_⟩
  intro rv1 w1 h1
  obtain ⟨x1, rfl⟩ : ∃ x : Int32, rv1 = some (.int x) := h1.2.2.2.2.2
  refine ⟨rfl, ?_⟩
  refine ⟨rfl, ?_⟩
  intro rv2 w2 h2
  obtain ⟨x2, rfl⟩ : ∃ x : Int32, rv2 = some (.int x) := h2.2.2.2.2.2
  have hq := hp w w1 w2 _ _ _ _ hJ h1 h2
  exact ⟨i + 6, ⟨rfl, rfl, rfl, rfl, trivial⟩, rfl, hq⟩
set_option maxHeartbeats 4000000 in
set_option maxRecDepth 100000 in
theorem lc_1351 {q1 q2 b L : Nat} {xs : Nat → Int32} {J : lW → Prop} (hp : pq_parts q1 q2 J) : ∀ (lg : fL_) (vs : List Value) (w : lW), I_lw q1 q2 b J lg vs w → ∃ (l : fL_) (f : Nat), f_sub l lg ∧ wh oL (T_lw b L xs) Sp_lw P_lw K_law (H_lw q1 q2 b J) f 1351 l vs w := by
  rintro lg vs w ⟨i, hs, rfl, hJ⟩
  refine ⟨_, 100, hs, ?_⟩
  intro rv1 w1 h1
  obtain ⟨x1, rfl⟩ : ∃ x : Int32, rv1 = some (.int x) := h1.2.2.2.2.2
  intro rv2 w2 h2
  obtain ⟨x2, rfl⟩ : ∃ x : Int32, rv2 = some (.int x) := h2.2.2.2.2.2
  have hq := hp w w1 w2 _ _  hJ h1 h2
  exact ⟨i + 6, ⟨rfl, rfl, rfl, rfl, trivial⟩, rfl, hq⟩
set_option maxHeartbeats 4000000 in
set_option maxRecDepth 100000 in
theorem lc_1364 {q1 q2 b L : Nat} {xs : Nat → Int32} {J : lW → Prop} (hp : pq_far q1 q2 J) : ∀ (lg : fL_) (vs : List Value) (w : lW), I_lw q1 q2 b J lg vs w → ∃ (l : fL_) (f : Nat), f_sub l lg ∧ wh oL (T_lw b L xs) Sp_lw P_lw K_law (H_lw q1 q2 b J) f 1364 l vs w := by
  rintro lg vs w ⟨i, hs, rfl, hJ⟩
  refine ⟨_, 100, hs, ?_⟩
  refine ⟨rfl, ?_⟩
  refine ⟨rfl, ?_⟩
  intro rv1 w1 h1
  obtain ⟨x1, rfl⟩ : ∃ x : Int32, rv1 = some (.int x) := h1.2.2.2.2.2
  refine ⟨rfl, ?_⟩
  refine ⟨rfl, ?_⟩
  intro rv2 w2 h2
  obtain ⟨x2, rfl⟩ : ∃ x : Int32, rv2 = some (.int x) := h2.2.2.2.2.2
  have hq := hp w w1 w2 _ _ _ _ hJ h1 h2
  exact ⟨i + 6, ⟨rfl, rfl, rfl, rfl, trivial⟩, rfl, hq⟩
set_option maxHeartbeats 4000000 in
set_option maxRecDepth 100000 in
theorem lc_1397 {q1 q2 b L : Nat} {xs : Nat → Int32} {J : lW → Prop} (hp : pq_merged q1 q2 J) : ∀ (lg : fL_) (vs : List Value) (w : lW), I_lw q1 q2 b J lg vs w → ∃ (l : fL_) (f : Nat), f_sub l lg ∧ wh oL (T_lw b L xs) Sp_lw P_lw K_law (H_lw q1 q2 b J) f 1397 l vs w := by
  rintro lg vs w ⟨i, hs, rfl, hJ⟩
  refine ⟨_, 100, hs, ?_⟩
  refine ⟨rfl, ?_⟩
  intro rv1 w1 h1
  obtain ⟨x1, rfl⟩ : ∃ x : Int32, rv1 = some (.int x) := h1.2.2.2.2.2
  refine ⟨rfl, ?_⟩
  intro rv2 w2 h2
  obtain ⟨x2, rfl⟩ : ∃ x : Int32, rv2 = some (.int x) := h2.2.2.2.2.2
  have hq := hp w w1 w2 _ _ _ hJ h1 h2
  exact ⟨i + 6, ⟨rfl, rfl, rfl, rfl, trivial⟩, rfl, hq⟩
set_option maxHeartbeats 4000000 in
set_option maxRecDepth 100000 in
theorem lc_1420 {q1 q2 b L : Nat} {xs : Nat → Int32} {J : lW → Prop} (hp : pq_mergedWorld q1 q2 J) : ∀ (lg : fL_) (vs : List Value) (w : lW), I_lw q1 q2 b J lg vs w → ∃ (l : fL_) (f : Nat), f_sub l lg ∧ wh oL (T_lw b L xs) Sp_lw P_lw K_law (H_lw q1 q2 b J) f 1420 l vs w := by
  rintro lg vs w ⟨i, hs, rfl, hJ⟩
  refine ⟨_, 100, hs, ?_⟩
  refine ⟨rfl, ?_⟩
  refine ⟨rfl, ?_⟩
  intro rv1 w1 h1
  obtain ⟨x1, rfl⟩ : ∃ x : Int32, rv1 = some (.int x) := h1.2.2.2.2.2
  refine ⟨rfl, ?_⟩
  refine ⟨rfl, ?_⟩
  intro rv2 w2 h2
  obtain ⟨x2, rfl⟩ : ∃ x : Int32, rv2 = some (.int x) := h2.2.2.2.2.2
  have hq := hp w w1 w2 _ _ _ _ hJ h1 h2
  exact ⟨i + 6, ⟨rfl, rfl, rfl, rfl, trivial⟩, rfl, hq⟩
set_option maxHeartbeats 4000000 in
set_option maxRecDepth 100000 in
theorem lc_1453 {q1 q2 b L : Nat} {xs : Nat → Int32} {J : lW → Prop} (hp : pq_agreed q1 q2 J) : ∀ (lg : fL_) (vs : List Value) (w : lW), I_lw q1 q2 b J lg vs w → ∃ (l : fL_) (f : Nat), f_sub l lg ∧ wh oL (T_lw b L xs) Sp_lw P_lw K_law (H_lw q1 q2 b J) f 1453 l vs w := by
  rintro lg vs w ⟨i, hs, rfl, hJ⟩
  refine ⟨_, 100, hs, ?_⟩
  refine ⟨rfl, ?_⟩
  refine ⟨rfl, ?_⟩
  intro rv1 w1 h1
  obtain ⟨x1, rfl⟩ : ∃ x : Int32, rv1 = some (.int x) := h1.2.2.2.2.2
  refine ⟨rfl, ?_⟩
  refine ⟨rfl, ?_⟩
  intro rv2 w2 h2
  obtain ⟨x2, rfl⟩ : ∃ x : Int32, rv2 = some (.int x) := h2.2.2.2.2.2
  have hq := hp w w1 w2 _ _ _ _ hJ h1 h2
  exact ⟨i + 6, ⟨rfl, rfl, rfl, rfl, trivial⟩, rfl, hq⟩
set_option maxHeartbeats 4000000 in
set_option maxRecDepth 100000 in
theorem lc_1486 {q1 q2 b L : Nat} {xs : Nat → Int32} {J : lW → Prop} (hp : pq_take q1 q2 J) : ∀ (lg : fL_) (vs : List Value) (w : lW), I_lw q1 q2 b J lg vs w → ∃ (l : fL_) (f : Nat), f_sub l lg ∧ wh oL (T_lw b L xs) Sp_lw P_lw K_law (H_lw q1 q2 b J) f 1486 l vs w := by
  rintro lg vs w ⟨i, hs, rfl, hJ⟩
  refine ⟨_, 100, hs, ?_⟩
  refine ⟨rfl, ?_⟩
  refine ⟨rfl, ?_⟩
  refine ⟨rfl, ?_⟩
  intro rv1 w1 h1
  obtain ⟨x1, rfl⟩ : ∃ x : Int32, rv1 = some (.int x) := h1.2.2.2.2.2
  refine ⟨rfl, ?_⟩
  refine ⟨rfl, ?_⟩
  refine ⟨rfl, ?_⟩
  intro rv2 w2 h2
  obtain ⟨x2, rfl⟩ : ∃ x : Int32, rv2 = some (.int x) := h2.2.2.2.2.2
  have hq := hp w w1 w2 _ _ _ _ _ hJ h1 h2
  exact ⟨i + 6, ⟨rfl, rfl, rfl, rfl, trivial⟩, rfl, hq⟩
set_option maxHeartbeats 4000000 in
set_option maxRecDepth 100000 in
theorem lc_1529 {q1 q2 b L : Nat} {xs : Nat → Int32} {J : lW → Prop} (hp : pq_loose q1 q2 J) : ∀ (lg : fL_) (vs : List Value) (w : lW), I_lw q1 q2 b J lg vs w → ∃ (l : fL_) (f : Nat), f_sub l lg ∧ wh oL (T_lw b L xs) Sp_lw P_lw K_law (H_lw q1 q2 b J) f 1529 l vs w := by
  rintro lg vs w ⟨i, hs, rfl, hJ⟩
  refine ⟨_, 100, hs, ?_⟩
  refine ⟨rfl, ?_⟩
  intro rv1 w1 h1
  obtain ⟨x1, rfl⟩ : ∃ x : Int32, rv1 = some (.int x) := h1.2.2.2.2.2
  refine ⟨rfl, ?_⟩
  intro rv2 w2 h2
  obtain ⟨x2, rfl⟩ : ∃ x : Int32, rv2 = some (.int x) := h2.2.2.2.2.2
  have hq := hp w w1 w2 _ _ _ hJ h1 h2
  exact ⟨i + 6, ⟨rfl, rfl, rfl, rfl, trivial⟩, rfl, hq⟩
set_option maxHeartbeats 4000000 in
set_option maxRecDepth 100000 in
theorem lc_1552 {q1 q2 b L : Nat} {xs : Nat → Int32} {J : lW → Prop} (hp : pq_as q1 q2 J) : ∀ (lg : fL_) (vs : List Value) (w : lW), I_lw q1 q2 b J lg vs w → ∃ (l : fL_) (f : Nat), f_sub l lg ∧ wh oL (T_lw b L xs) Sp_lw P_lw K_law (H_lw q1 q2 b J) f 1552 l vs w := by
  rintro lg vs w ⟨i, hs, rfl, hJ⟩
  refine ⟨_, 100, hs, ?_⟩
  refine ⟨rfl, ?_⟩
  refine ⟨rfl, ?_⟩
  intro rv1 w1 h1
  obtain ⟨x1, rfl⟩ : ∃ x : Int32, rv1 = some (.int x) := h1.2.2.2.2.2
  refine ⟨rfl, ?_⟩
  refine ⟨rfl, ?_⟩
  intro rv2 w2 h2
  obtain ⟨x2, rfl⟩ : ∃ x : Int32, rv2 = some (.int x) := h2.2.2.2.2.2
  have hq := hp w w1 w2 _ _ _ _ hJ h1 h2
  exact ⟨i + 6, ⟨rfl, rfl, rfl, rfl, trivial⟩, rfl, hq⟩
set_option maxHeartbeats 4000000 in
set_option maxRecDepth 100000 in
theorem lc_1585 {q1 q2 b L : Nat} {xs : Nat → Int32} {J : lW → Prop} (hp : pq_tell q1 q2 J) : ∀ (lg : fL_) (vs : List Value) (w : lW), I_lw q1 q2 b J lg vs w → ∃ (l : fL_) (f : Nat), f_sub l lg ∧ wh oL (T_lw b L xs) Sp_lw P_lw K_law (H_lw q1 q2 b J) f 1585 l vs w := by
  rintro lg vs w ⟨i, hs, rfl, hJ⟩
  refine ⟨_, 100, hs, ?_⟩
  refine ⟨rfl, ?_⟩
  intro rv1 w1 h1
  obtain ⟨x1, rfl⟩ : ∃ x : Int32, rv1 = some (.int x) := h1.2.2.2.2.2
  refine ⟨rfl, ?_⟩
  intro rv2 w2 h2
  obtain ⟨x2, rfl⟩ : ∃ x : Int32, rv2 = some (.int x) := h2.2.2.2.2.2
  have hq := hp w w1 w2 _ _ _ hJ h1 h2
  exact ⟨i + 6, ⟨rfl, rfl, rfl, rfl, trivial⟩, rfl, hq⟩
set_option maxHeartbeats 4000000 in
set_option maxRecDepth 100000 in
theorem lc_1608 {q1 q2 b L : Nat} {xs : Nat → Int32} {J : lW → Prop} (hp : pq_show q1 q2 J) : ∀ (lg : fL_) (vs : List Value) (w : lW), I_lw q1 q2 b J lg vs w → ∃ (l : fL_) (f : Nat), f_sub l lg ∧ wh oL (T_lw b L xs) Sp_lw P_lw K_law (H_lw q1 q2 b J) f 1608 l vs w := by
  rintro lg vs w ⟨i, hs, rfl, hJ⟩
  refine ⟨_, 100, hs, ?_⟩
  refine ⟨rfl, ?_⟩
  intro rv1 w1 h1
  obtain ⟨x1, rfl⟩ : ∃ x : Int32, rv1 = some (.int x) := h1.2.2.2.2.2
  refine ⟨rfl, ?_⟩
  intro rv2 w2 h2
  obtain ⟨x2, rfl⟩ : ∃ x : Int32, rv2 = some (.int x) := h2.2.2.2.2.2
  have hq := hp w w1 w2 _ _ _ hJ h1 h2
  exact ⟨i + 6, ⟨rfl, rfl, rfl, rfl, trivial⟩, rfl, hq⟩
set_option maxHeartbeats 4000000 in
set_option maxRecDepth 100000 in
theorem lc_1631 {q1 q2 b L : Nat} {xs : Nat → Int32} {J : lW → Prop} (hp : pq_sheet q1 q2 J) : ∀ (lg : fL_) (vs : List Value) (w : lW), I_lw q1 q2 b J lg vs w → ∃ (l : fL_) (f : Nat), f_sub l lg ∧ wh oL (T_lw b L xs) Sp_lw P_lw K_law (H_lw q1 q2 b J) f 1631 l vs w := by
  rintro lg vs w ⟨i, hs, rfl, hJ⟩
  refine ⟨_, 100, hs, ?_⟩
  refine ⟨rfl, ?_⟩
  refine ⟨rfl, ?_⟩
  refine ⟨rfl, ?_⟩
  intro rv1 w1 h1
  obtain ⟨x1, rfl⟩ : ∃ x : Int32, rv1 = some (.int x) := h1.2.2.2.2.2
  refine ⟨rfl, ?_⟩
  refine ⟨rfl, ?_⟩
  refine ⟨rfl, ?_⟩
  intro rv2 w2 h2
  obtain ⟨x2, rfl⟩ : ∃ x : Int32, rv2 = some (.int x) := h2.2.2.2.2.2
  have hq := hp w w1 w2 _ _ _ _ _ hJ h1 h2
  exact ⟨i + 6, ⟨rfl, rfl, rfl, rfl, trivial⟩, rfl, hq⟩
set_option maxHeartbeats 4000000 in
set_option maxRecDepth 100000 in
theorem lc_1674 {q1 q2 b L : Nat} {xs : Nat → Int32} {J : lW → Prop} (hp : pq_lose q1 q2 J) : ∀ (lg : fL_) (vs : List Value) (w : lW), I_lw q1 q2 b J lg vs w → ∃ (l : fL_) (f : Nat), f_sub l lg ∧ wh oL (T_lw b L xs) Sp_lw P_lw K_law (H_lw q1 q2 b J) f 1674 l vs w := by
  rintro lg vs w ⟨i, hs, rfl, hJ⟩
  refine ⟨_, 100, hs, ?_⟩
  refine ⟨rfl, ?_⟩
  intro rv1 w1 h1
  obtain ⟨x1, rfl⟩ : ∃ x : Int32, rv1 = some (.int x) := h1.2.2.2.2.2
  refine ⟨rfl, ?_⟩
  intro rv2 w2 h2
  obtain ⟨x2, rfl⟩ : ∃ x : Int32, rv2 = some (.int x) := h2.2.2.2.2.2
  have hq := hp w w1 w2 _ _ _ hJ h1 h2
  exact ⟨i + 6, ⟨rfl, rfl, rfl, rfl, trivial⟩, rfl, hq⟩
set_option maxHeartbeats 4000000 in
set_option maxRecDepth 100000 in
theorem lc_1697 {q1 q2 b L : Nat} {xs : Nat → Int32} {J : lW → Prop} (hp : pq_put q1 q2 J) : ∀ (lg : fL_) (vs : List Value) (w : lW), I_lw q1 q2 b J lg vs w → ∃ (l : fL_) (f : Nat), f_sub l lg ∧ wh oL (T_lw b L xs) Sp_lw P_lw K_law (H_lw q1 q2 b J) f 1697 l vs w := by
  rintro lg vs w ⟨i, hs, rfl, hJ⟩
  refine ⟨_, 100, hs, ?_⟩
  refine ⟨rfl, ?_⟩
  refine ⟨rfl, ?_⟩
  refine ⟨rfl, ?_⟩
  intro rv1 w1 h1
  obtain ⟨x1, rfl⟩ : ∃ x : Int32, rv1 = some (.int x) := h1.2.2.2.2.2
  refine ⟨rfl, ?_⟩
  refine ⟨rfl, ?_⟩
  refine ⟨rfl, ?_⟩
  intro rv2 w2 h2
  obtain ⟨x2, rfl⟩ : ∃ x : Int32, rv2 = some (.int x) := h2.2.2.2.2.2
  have hq := hp w w1 w2 _ _ _ _ _ hJ h1 h2
  exact ⟨i + 6, ⟨rfl, rfl, rfl, rfl, trivial⟩, rfl, hq⟩
set_option maxHeartbeats 4000000 in
set_option maxRecDepth 100000 in
theorem lc_1740 {q1 q2 b L : Nat} {xs : Nat → Int32} {J : lW → Prop} (hp : pq_cell q1 q2 J) : ∀ (lg : fL_) (vs : List Value) (w : lW), I_lw q1 q2 b J lg vs w → ∃ (l : fL_) (f : Nat), f_sub l lg ∧ wh oL (T_lw b L xs) Sp_lw P_lw K_law (H_lw q1 q2 b J) f 1740 l vs w := by
  rintro lg vs w ⟨i, hs, rfl, hJ⟩
  refine ⟨_, 100, hs, ?_⟩
  refine ⟨rfl, ?_⟩
  refine ⟨rfl, ?_⟩
  refine ⟨rfl, ?_⟩
  intro rv1 w1 h1
  obtain ⟨x1, rfl⟩ : ∃ x : Int64, rv1 = some (.long x) := h1.2.2.2.2.2
  refine ⟨rfl, ?_⟩
  refine ⟨rfl, ?_⟩
  refine ⟨rfl, ?_⟩
  intro rv2 w2 h2
  obtain ⟨x2, rfl⟩ : ∃ x : Int64, rv2 = some (.long x) := h2.2.2.2.2.2
  have hq := hp w w1 w2 _ _ _ _ _ hJ h1 h2
  exact ⟨i + 6, ⟨rfl, rfl, rfl, rfl, trivial⟩, rfl, hq⟩
set_option maxHeartbeats 4000000 in
set_option maxRecDepth 100000 in
theorem lc_1783 {q1 q2 b L : Nat} {xs : Nat → Int32} {J : lW → Prop} (hp : pq_copy q1 q2 J) : ∀ (lg : fL_) (vs : List Value) (w : lW), I_lw q1 q2 b J lg vs w → ∃ (l : fL_) (f : Nat), f_sub l lg ∧ wh oL (T_lw b L xs) Sp_lw P_lw K_law (H_lw q1 q2 b J) f 1783 l vs w := by
  rintro lg vs w ⟨i, hs, rfl, hJ⟩
  refine ⟨_, 100, hs, ?_⟩
  refine ⟨rfl, ?_⟩
  refine ⟨rfl, ?_⟩
  refine ⟨rfl, ?_⟩
  refine ⟨rfl, ?_⟩
  refine ⟨rfl, ?_⟩
  intro rv1 w1 h1
  obtain ⟨x1, rfl⟩ : ∃ x : Int32, rv1 = some (.int x) := h1.2.2.2.2.2
  refine ⟨rfl, ?_⟩
  refine ⟨rfl, ?_⟩
  refine ⟨rfl, ?_⟩
  refine ⟨rfl, ?_⟩
  refine ⟨rfl, ?_⟩
  intro rv2 w2 h2
  obtain ⟨x2, rfl⟩ : ∃ x : Int32, rv2 = some (.int x) := h2.2.2.2.2.2
  have hq := hp w w1 w2 _ _ _ _ _ _ _ hJ h1 h2
  exact ⟨i + 6, ⟨rfl, rfl, rfl, rfl, trivial⟩, rfl, hq⟩
set_option maxHeartbeats 4000000 in
set_option maxRecDepth 100000 in
theorem lc_1846 {q1 q2 b L : Nat} {xs : Nat → Int32} {J : lW → Prop} (hp : pq_trace q1 q2 J) : ∀ (lg : fL_) (vs : List Value) (w : lW), I_lw q1 q2 b J lg vs w → ∃ (l : fL_) (f : Nat), f_sub l lg ∧ wh oL (T_lw b L xs) Sp_lw P_lw K_law (H_lw q1 q2 b J) f 1846 l vs w := by
  rintro lg vs w ⟨i, hs, rfl, hJ⟩
  refine ⟨_, 100, hs, ?_⟩
  intro rv1 w1 h1
  obtain ⟨x1, rfl⟩ : ∃ x : Int32, rv1 = some (.int x) := h1.2.2.2.2.2
  intro rv2 w2 h2
  obtain ⟨x2, rfl⟩ : ∃ x : Int32, rv2 = some (.int x) := h2.2.2.2.2.2
  have hq := hp w w1 w2 _ _  hJ h1 h2
  exact ⟨i + 6, ⟨rfl, rfl, rfl, rfl, trivial⟩, rfl, hq⟩
set_option maxHeartbeats 4000000 in
set_option maxRecDepth 100000 in
theorem lc_1859 {q1 q2 b L : Nat} {xs : Nat → Int32} {J : lW → Prop} (hp : pq_fault q1 q2 J) : ∀ (lg : fL_) (vs : List Value) (w : lW), I_lw q1 q2 b J lg vs w → ∃ (l : fL_) (f : Nat), f_sub l lg ∧ wh oL (T_lw b L xs) Sp_lw P_lw K_law (H_lw q1 q2 b J) f 1859 l vs w := by
  rintro lg vs w ⟨i, hs, rfl, hJ⟩
  refine ⟨_, 100, hs, ?_⟩
  intro rv1 w1 h1
  obtain ⟨x1, rfl⟩ : ∃ x : Int32, rv1 = some (.int x) := h1.2.2.2.2.2
  intro rv2 w2 h2
  obtain ⟨x2, rfl⟩ : ∃ x : Int32, rv2 = some (.int x) := h2.2.2.2.2.2
  have hq := hp w w1 w2 _ _  hJ h1 h2
  exact ⟨i + 6, ⟨rfl, rfl, rfl, rfl, trivial⟩, rfl, hq⟩
set_option maxHeartbeats 4000000 in
set_option maxRecDepth 100000 in
theorem lc_1872 {q1 q2 b L : Nat} {xs : Nat → Int32} {J : lW → Prop} (hp : pq_many q1 q2 J) : ∀ (lg : fL_) (vs : List Value) (w : lW), I_lw q1 q2 b J lg vs w → ∃ (l : fL_) (f : Nat), f_sub l lg ∧ wh oL (T_lw b L xs) Sp_lw P_lw K_law (H_lw q1 q2 b J) f 1872 l vs w := by
  rintro lg vs w ⟨i, hs, rfl, hJ⟩
  refine ⟨_, 100, hs, ?_⟩
  refine ⟨rfl, ?_⟩
  intro rv1 w1 h1
  obtain ⟨x1, rfl⟩ : ∃ x : Int32, rv1 = some (.int x) := h1.2.2.2.2.2
  refine ⟨rfl, ?_⟩
  intro rv2 w2 h2
  obtain ⟨x2, rfl⟩ : ∃ x : Int32, rv2 = some (.int x) := h2.2.2.2.2.2
  have hq := hp w w1 w2 _ _ _ hJ h1 h2
  exact ⟨i + 6, ⟨rfl, rfl, rfl, rfl, trivial⟩, rfl, hq⟩
set_option maxHeartbeats 4000000 in
set_option maxRecDepth 100000 in
theorem lc_18 {q1 q2 b L : Nat} {xs : Nat → Int32} {J : lW → Prop} : ∀ (lg : fL_) (vs : List Value) (w : lW), I_lw q1 q2 b J lg vs w → ∃ (l : fL_) (f : Nat), f_sub l lg ∧ wh oL (T_lw b L xs) Sp_lw P_lw K_law (H_lw q1 q2 b J) f 18 l vs w := by
  rintro lg vs w ⟨i, hs, rfl, hJ⟩
  refine ⟨_, 60, hs, ?_⟩
  have hI : I_lw q1 q2 b J [(3, false, .int i), (2, false, .ref q2), (1, false, .ref q1), (0, false, .ref b)] [] w := ⟨i, ⟨rfl, rfl, rfl, rfl, trivial⟩, rfl, hJ⟩
  refine ⟨rfl, fun hc => rfl, fun hc => ⟨rfl, fun hd => ⟨i + 6, ⟨rfl, rfl, rfl, rfl, trivial⟩, rfl, hJ⟩, fun h1 h2 => wT_all ?_⟩⟩
  exact (List.forall_mem_cons.mpr ⟨hI, (List.forall_mem_cons.mpr ⟨hI, (List.forall_mem_cons.mpr ⟨hI, (List.forall_mem_cons.mpr ⟨hI, (List.forall_mem_cons.mpr ⟨hI, (List.forall_mem_cons.mpr ⟨hI, (List.forall_mem_cons.mpr ⟨hI, (List.forall_mem_cons.mpr ⟨hI, (List.forall_mem_cons.mpr ⟨hI, (List.forall_mem_cons.mpr ⟨hI, (List.forall_mem_cons.mpr ⟨hI, (List.forall_mem_cons.mpr ⟨hI, (List.forall_mem_cons.mpr ⟨hI, (List.forall_mem_cons.mpr ⟨hI, (List.forall_mem_cons.mpr ⟨hI, (List.forall_mem_cons.mpr ⟨hI, (List.forall_mem_cons.mpr ⟨hI, (List.forall_mem_cons.mpr ⟨hI, (List.forall_mem_cons.mpr ⟨hI, (List.forall_mem_cons.mpr ⟨hI, (List.forall_mem_cons.mpr ⟨hI, (List.forall_mem_cons.mpr ⟨hI, (List.forall_mem_cons.mpr ⟨hI, (List.forall_mem_cons.mpr ⟨hI, (List.forall_mem_cons.mpr ⟨hI, (List.forall_mem_cons.mpr ⟨hI, (List.forall_mem_cons.mpr ⟨hI, (List.forall_mem_cons.mpr ⟨hI, (List.forall_mem_cons.mpr ⟨hI, (List.forall_mem_cons.mpr ⟨hI, (List.forall_mem_cons.mpr ⟨hI, (List.forall_mem_cons.mpr ⟨hI, (List.forall_mem_cons.mpr ⟨hI, (List.forall_mem_cons.mpr ⟨hI, (List.forall_mem_cons.mpr ⟨hI, (List.forall_mem_cons.mpr ⟨hI, (List.forall_mem_cons.mpr ⟨hI, (List.forall_mem_cons.mpr ⟨hI, (List.forall_mem_cons.mpr ⟨hI, (List.forall_mem_cons.mpr ⟨hI, (List.forall_mem_cons.mpr ⟨hI, (List.forall_mem_cons.mpr ⟨hI, (List.forall_mem_cons.mpr ⟨hI, (List.forall_mem_cons.mpr ⟨hI, (List.forall_mem_cons.mpr ⟨hI, (List.forall_mem_cons.mpr ⟨hI, (List.forall_mem_cons.mpr ⟨hI, (List.forall_mem_cons.mpr ⟨hI, (List.forall_mem_cons.mpr ⟨hI, (List.forall_mem_cons.mpr ⟨hI, (List.forall_mem_cons.mpr ⟨hI, (fun _ h => absurd h List.not_mem_nil)⟩)⟩)⟩)⟩)⟩)⟩)⟩)⟩)⟩)⟩)⟩)⟩)⟩)⟩)⟩)⟩)⟩)⟩)⟩)⟩)⟩)⟩)⟩)⟩)⟩)⟩)⟩)⟩)⟩)⟩)⟩)⟩)⟩)⟩)⟩)⟩)⟩)⟩)⟩)⟩)⟩)⟩)⟩)⟩)⟩)⟩)⟩)⟩)⟩)⟩)⟩)
