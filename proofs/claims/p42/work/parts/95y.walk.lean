/-! the law's walk: what holds at its loop's head, and of each case's calls, comes to the answer 1 -/
/-- the trace that comes to the end comes to 1 -/
def lw_one (s0 : fS) (b L : Nat) (xs : Nat → Int32) : Prop := ∀ (pc : Nat) (lg : List (Nat × Value)) (x : Int32) (ws' : va_W) (sh' : List Nat), gr (tM M_law Fc_law (some (b, L, xs))) code s0 (pc, lg, [.int x], ws', sh') → decode code pc = .ok (.ireturn, 1) → x = 1
def oL : fO lW := (fun w => hof w.1, fun _ _ _ _ => False, fun _ _ _ _ _ => False)
def wL (w : lW) (ws : va_W) (sh : List Nat) : Prop := w = (ws, sh) ∧ f_dj ws
theorem oL_ok : f_wr oL wL := by
  refine ⟨fun w ws sh h => ?_, fun w ws sh p q e e' K h hq hk => hk.elim, fun w ws sh q t e K h hd hk => hk.elim⟩
  obtain ⟨rfl, hd⟩ := h
  exact ⟨rfl, hd⟩
theorem sp_lw {T : fT} {key na : Nat} {r : fR} (hT : T.2.2.2.2.2.1 key = (na, r)) (hr : ∀ (As : List Value) (ws : va_W) (sh : List Nat) (rv : Option Value) (ws' : va_W) (sh' : List Nat), r As ws sh rv ws' sh' → f_dj ws') : (T.2.2.2.2.2.1 (key, na, fLr r).1).1 = (key, na, fLr r).2.1 ∧ ∀ (As : List Value) (w : lW) (ws : va_W) (sh : List Nat) (rv : Option Value) (ws' : va_W) (sh' : List Nat), wL w ws sh → (T.2.2.2.2.2.1 (key, na, fLr r).1).2 As ws sh rv ws' sh' → ∃ w', wL w' ws' sh' ∧ (key, na, fLr r).2.2 As w rv w' := by
  refine ⟨by show (T.2.2.2.2.2.1 key).1 = na; rw [hT], fun As w ws sh rv ws' sh' hw hx => ?_⟩
  have hx : (T.2.2.2.2.2.1 key).2 As ws sh rv ws' sh' := hx
  rw [hT] at hx
  obtain ⟨rfl, -⟩ := hw
  exact ⟨(ws', sh'), ⟨rfl, hr _ _ _ _ _ _ hx⟩, hx⟩
theorem wT_all {W : Type} {k : Nat → fL_ → List Value → W → Prop} {pc : Nat} {lg : fL_} {r : List Value} {w : W} {x : Int32} : ∀ {os : List Int} {lo : Int}, (∀ o ∈ os, k (f_tg pc o) lg r w) → wT k pc lg r w x lo os
  | [], _, _ => trivial
  | o :: os, lo, h => ⟨fun _ => h o List.mem_cons_self, wT_all (os := os) (fun o' h' => h o' (List.mem_cons_of_mem _ h'))⟩
def T_lw (b L : Nat) (xs : Nat → Int32) : fT := tM M_law Fc_law (some (b, L, xs))
def P_lw : Option Value → lW → Prop := fun rv _ => rv = some (.int 1)
def Sp_lw : fP lW := [(303, 2, fLr r_X12_giveUp), (306, 3, fLr r_X11_news), (315, 3, fLr r_X12_news), (318, 3, fLr r_X11_postulate), (327, 3, fLr r_X12_postulate), (330, 6, fLr r_X11_rule), (339, 6, fLr r_X12_rule), (342, 3, fLr r_X11_ruled), (351, 3, fLr r_X12_ruled), (354, 2, fLr r_X11_extensions), (363, 2, fLr r_X12_extensions), (366, 3, fLr r_X11_extension), (375, 3, fLr r_X12_extension), (378, 3, fLr r_X11_concluded), (387, 3, fLr r_X12_concluded), (39, 5, fLr r_X11_read), (390, 3, fLr r_X11_claim), (399, 3, fLr r_X12_claim), (402, 3, fLr r_X11_strikes), (411, 3, fLr r_X12_strikes), (414, 3, fLr r_X11_claimed), (423, 3, fLr r_X12_claimed), (426, 2, fLr r_X11_sets), (435, 2, fLr r_X12_sets), (438, 3, fLr r_X11_setOf), (447, 3, fLr r_X12_setOf), (450, 1, fLr r_X11_parts), (462, 1, fLr r_X12_parts), (465, 3, fLr r_X11_far), (474, 3, fLr r_X12_far), (477, 2, fLr r_X11_merged), (486, 2, fLr r_X12_merged), (489, 3, fLr r_X11_mergedWorld), (498, 3, fLr r_X12_mergedWorld), (501, 3, fLr r_X11_agreed), (51, 5, fLr r_X12_read), (510, 3, fLr r_X12_agreed), (513, 4, fLr r_X11_take), (522, 4, fLr r_X12_take), (525, 2, fLr r_X11_loose), (534, 2, fLr r_X12_loose), (537, 3, fLr r_X11_as), (54, 4, fLr r_X11_make), (546, 3, fLr r_X12_as), (549, 2, fLr r_X11_tell), (558, 2, fLr r_X12_tell), (561, 2, fLr r_X11_show), (570, 2, fLr r_X12_show), (573, 4, fLr r_X11_sheet), (582, 4, fLr r_X12_sheet), (585, 2, fLr r_X11_lose), (594, 2, fLr r_X12_lose), (597, 4, fLr r_X11_put), (606, 4, fLr r_X12_put), (609, 4, fLr r_X11_cell), (621, 4, fLr r_X12_cell), (624, 6, fLr r_X11_copy), (633, 6, fLr r_X12_copy), (636, 1, fLr r_X11_trace), (645, 1, fLr r_X12_trace), (648, 1, fLr r_X11_fault), (657, 1, fLr r_X12_fault), (66, 4, fLr r_X12_make), (660, 2, fLr r_X11_many), (669, 2, fLr r_X12_many), (69, 2, fLr r_X11_worlds), (81, 2, fLr r_X12_worlds), (84, 3, fLr r_X11_truth), (96, 3, fLr r_X12_truth), (99, 3, fLr r_X11_compare), (108, 3, fLr r_X12_compare), (111, 3, fLr r_X11_trust), (120, 3, fLr r_X12_trust), (123, 6, fLr r_X11_hold), (135, 6, fLr r_X12_hold), (138, 3, fLr r_X11_view), (147, 3, fLr r_X12_view), (150, 3, fLr r_X11_entry), (159, 3, fLr r_X12_entry), (162, 3, fLr r_X11_drop), (171, 3, fLr r_X12_drop), (174, 2, fLr r_X11_weight), (183, 2, fLr r_X12_weight), (186, 2, fLr r_X11_together), (195, 2, fLr r_X12_together), (198, 3, fLr r_X11_reasons), (207, 3, fLr r_X12_reasons), (210, 4, fLr r_X11_reason), (219, 4, fLr r_X12_reason), (222, 2, fLr r_X11_harmonies), (231, 2, fLr r_X12_harmonies), (234, 3, fLr r_X11_harmony), (243, 3, fLr r_X12_harmony), (246, 3, fLr r_X11_held), (255, 3, fLr r_X12_held), (258, 2, fLr r_X11_cuts), (267, 2, fLr r_X12_cuts), (270, 3, fLr r_X11_cutOf), (279, 3, fLr r_X12_cutOf), (282, 2, fLr r_X11_least), (291, 2, fLr r_X12_least), (294, 2, fLr r_X11_giveUp)]
set_option maxRecDepth 100000 in
theorem Sp_lw_ok (b L : Nat) (xs : Nat → Int32) : f_sp (T_lw b L xs) Sp_lw wL :=
  (List.forall_mem_cons.mpr ⟨sp_lw rfl (fun _ _ _ _ _ _ h => h.2.2.1), (List.forall_mem_cons.mpr ⟨sp_lw rfl (fun _ _ _ _ _ _ h => h.2.2.1), (List.forall_mem_cons.mpr ⟨sp_lw rfl (fun _ _ _ _ _ _ h => h.2.2.1), (List.forall_mem_cons.mpr ⟨sp_lw rfl (fun _ _ _ _ _ _ h => h.2.2.1), (List.forall_mem_cons.mpr ⟨sp_lw rfl (fun _ _ _ _ _ _ h => h.2.2.1), (List.forall_mem_cons.mpr ⟨sp_lw rfl (fun _ _ _ _ _ _ h => h.2.2.1), (List.forall_mem_cons.mpr ⟨sp_lw rfl (fun _ _ _ _ _ _ h => h.2.2.1), (List.forall_mem_cons.mpr ⟨sp_lw rfl (fun _ _ _ _ _ _ h => h.2.2.1), (List.forall_mem_cons.mpr ⟨sp_lw rfl (fun _ _ _ _ _ _ h => h.2.2.1), (List.forall_mem_cons.mpr ⟨sp_lw rfl (fun _ _ _ _ _ _ h => h.2.2.1), (List.forall_mem_cons.mpr ⟨sp_lw rfl (fun _ _ _ _ _ _ h => h.2.2.1), (List.forall_mem_cons.mpr ⟨sp_lw rfl (fun _ _ _ _ _ _ h => h.2.2.1), (List.forall_mem_cons.mpr ⟨sp_lw rfl (fun _ _ _ _ _ _ h => h.2.2.1), (List.forall_mem_cons.mpr ⟨sp_lw rfl (fun _ _ _ _ _ _ h => h.2.2.1), (List.forall_mem_cons.mpr ⟨sp_lw rfl (fun _ _ _ _ _ _ h => h.2.2.1), (List.forall_mem_cons.mpr ⟨sp_lw rfl (fun _ _ _ _ _ _ h => h.2.2.1), (List.forall_mem_cons.mpr ⟨sp_lw rfl (fun _ _ _ _ _ _ h => h.2.2.1), (List.forall_mem_cons.mpr ⟨sp_lw rfl (fun _ _ _ _ _ _ h => h.2.2.1), (List.forall_mem_cons.mpr ⟨sp_lw rfl (fun _ _ _ _ _ _ h => h.2.2.1), (List.forall_mem_cons.mpr ⟨sp_lw rfl (fun _ _ _ _ _ _ h => h.2.2.1), (List.forall_mem_cons.mpr ⟨sp_lw rfl (fun _ _ _ _ _ _ h => h.2.2.1), (List.forall_mem_cons.mpr ⟨sp_lw rfl (fun _ _ _ _ _ _ h => h.2.2.1), (List.forall_mem_cons.mpr ⟨sp_lw rfl (fun _ _ _ _ _ _ h => h.2.2.1), (List.forall_mem_cons.mpr ⟨sp_lw rfl (fun _ _ _ _ _ _ h => h.2.2.1), (List.forall_mem_cons.mpr ⟨sp_lw rfl (fun _ _ _ _ _ _ h => h.2.2.1), (List.forall_mem_cons.mpr ⟨sp_lw rfl (fun _ _ _ _ _ _ h => h.2.2.1), (List.forall_mem_cons.mpr ⟨sp_lw rfl (fun _ _ _ _ _ _ h => h.2.2.1), (List.forall_mem_cons.mpr ⟨sp_lw rfl (fun _ _ _ _ _ _ h => h.2.2.1), (List.forall_mem_cons.mpr ⟨sp_lw rfl (fun _ _ _ _ _ _ h => h.2.2.1), (List.forall_mem_cons.mpr ⟨sp_lw rfl (fun _ _ _ _ _ _ h => h.2.2.1), (List.forall_mem_cons.mpr ⟨sp_lw rfl (fun _ _ _ _ _ _ h => h.2.2.1), (List.forall_mem_cons.mpr ⟨sp_lw rfl (fun _ _ _ _ _ _ h => h.2.2.1), (List.forall_mem_cons.mpr ⟨sp_lw rfl (fun _ _ _ _ _ _ h => h.2.2.1), (List.forall_mem_cons.mpr ⟨sp_lw rfl (fun _ _ _ _ _ _ h => h.2.2.1), (List.forall_mem_cons.mpr ⟨sp_lw rfl (fun _ _ _ _ _ _ h => h.2.2.1), (List.forall_mem_cons.mpr ⟨sp_lw rfl (fun _ _ _ _ _ _ h => h.2.2.1), (List.forall_mem_cons.mpr ⟨sp_lw rfl (fun _ _ _ _ _ _ h => h.2.2.1), (List.forall_mem_cons.mpr ⟨sp_lw rfl (fun _ _ _ _ _ _ h => h.2.2.1), (List.forall_mem_cons.mpr ⟨sp_lw rfl (fun _ _ _ _ _ _ h => h.2.2.1), (List.forall_mem_cons.mpr ⟨sp_lw rfl (fun _ _ _ _ _ _ h => h.2.2.1), (List.forall_mem_cons.mpr ⟨sp_lw rfl (fun _ _ _ _ _ _ h => h.2.2.1), (List.forall_mem_cons.mpr ⟨sp_lw rfl (fun _ _ _ _ _ _ h => h.2.2.1), (List.forall_mem_cons.mpr ⟨sp_lw rfl (fun _ _ _ _ _ _ h => h.2.2.1), (List.forall_mem_cons.mpr ⟨sp_lw rfl (fun _ _ _ _ _ _ h => h.2.2.1), (List.forall_mem_cons.mpr ⟨sp_lw rfl (fun _ _ _ _ _ _ h => h.2.2.1), (List.forall_mem_cons.mpr ⟨sp_lw rfl (fun _ _ _ _ _ _ h => h.2.2.1), (List.forall_mem_cons.mpr ⟨sp_lw rfl (fun _ _ _ _ _ _ h => h.2.2.1), (List.forall_mem_cons.mpr ⟨sp_lw rfl (fun _ _ _ _ _ _ h => h.2.2.1), (List.forall_mem_cons.mpr ⟨sp_lw rfl (fun _ _ _ _ _ _ h => h.2.2.1), (List.forall_mem_cons.mpr ⟨sp_lw rfl (fun _ _ _ _ _ _ h => h.2.2.1), (List.forall_mem_cons.mpr ⟨sp_lw rfl (fun _ _ _ _ _ _ h => h.2.2.1), (List.forall_mem_cons.mpr ⟨sp_lw rfl (fun _ _ _ _ _ _ h => h.2.2.1), (List.forall_mem_cons.mpr ⟨sp_lw rfl (fun _ _ _ _ _ _ h => h.2.2.1), (List.forall_mem_cons.mpr ⟨sp_lw rfl (fun _ _ _ _ _ _ h => h.2.2.1), (List.forall_mem_cons.mpr ⟨sp_lw rfl (fun _ _ _ _ _ _ h => h.2.2.1), (List.forall_mem_cons.mpr ⟨sp_lw rfl (fun _ _ _ _ _ _ h => h.2.2.1), (List.forall_mem_cons.mpr ⟨sp_lw rfl (fun _ _ _ _ _ _ h => h.2.2.1), (List.forall_mem_cons.mpr ⟨sp_lw rfl (fun _ _ _ _ _ _ h => h.2.2.1), (List.forall_mem_cons.mpr ⟨sp_lw rfl (fun _ _ _ _ _ _ h => h.2.2.1), (List.forall_mem_cons.mpr ⟨sp_lw rfl (fun _ _ _ _ _ _ h => h.2.2.1), (List.forall_mem_cons.mpr ⟨sp_lw rfl (fun _ _ _ _ _ _ h => h.2.2.1), (List.forall_mem_cons.mpr ⟨sp_lw rfl (fun _ _ _ _ _ _ h => h.2.2.1), (List.forall_mem_cons.mpr ⟨sp_lw rfl (fun _ _ _ _ _ _ h => h.2.2.1), (List.forall_mem_cons.mpr ⟨sp_lw rfl (fun _ _ _ _ _ _ h => h.2.2.1), (List.forall_mem_cons.mpr ⟨sp_lw rfl (fun _ _ _ _ _ _ h => h.2.2.1), (List.forall_mem_cons.mpr ⟨sp_lw rfl (fun _ _ _ _ _ _ h => h.2.2.1), (List.forall_mem_cons.mpr ⟨sp_lw rfl (fun _ _ _ _ _ _ h => h.2.2.1), (List.forall_mem_cons.mpr ⟨sp_lw rfl (fun _ _ _ _ _ _ h => h.2.2.1), (List.forall_mem_cons.mpr ⟨sp_lw rfl (fun _ _ _ _ _ _ h => h.2.2.1), (List.forall_mem_cons.mpr ⟨sp_lw rfl (fun _ _ _ _ _ _ h => h.2.2.1), (List.forall_mem_cons.mpr ⟨sp_lw rfl (fun _ _ _ _ _ _ h => h.2.2.1), (List.forall_mem_cons.mpr ⟨sp_lw rfl (fun _ _ _ _ _ _ h => h.2.2.1), (List.forall_mem_cons.mpr ⟨sp_lw rfl (fun _ _ _ _ _ _ h => h.2.2.1), (List.forall_mem_cons.mpr ⟨sp_lw rfl (fun _ _ _ _ _ _ h => h.2.2.1), (List.forall_mem_cons.mpr ⟨sp_lw rfl (fun _ _ _ _ _ _ h => h.2.2.1), (List.forall_mem_cons.mpr ⟨sp_lw rfl (fun _ _ _ _ _ _ h => h.2.2.1), (List.forall_mem_cons.mpr ⟨sp_lw rfl (fun _ _ _ _ _ _ h => h.2.2.1), (List.forall_mem_cons.mpr ⟨sp_lw rfl (fun _ _ _ _ _ _ h => h.2.2.1), (List.forall_mem_cons.mpr ⟨sp_lw rfl (fun _ _ _ _ _ _ h => h.2.2.1), (List.forall_mem_cons.mpr ⟨sp_lw rfl (fun _ _ _ _ _ _ h => h.2.2.1), (List.forall_mem_cons.mpr ⟨sp_lw rfl (fun _ _ _ _ _ _ h => h.2.2.1), (List.forall_mem_cons.mpr ⟨sp_lw rfl (fun _ _ _ _ _ _ h => h.2.2.1), (List.forall_mem_cons.mpr ⟨sp_lw rfl (fun _ _ _ _ _ _ h => h.2.2.1), (List.forall_mem_cons.mpr ⟨sp_lw rfl (fun _ _ _ _ _ _ h => h.2.2.1), (List.forall_mem_cons.mpr ⟨sp_lw rfl (fun _ _ _ _ _ _ h => h.2.2.1), (List.forall_mem_cons.mpr ⟨sp_lw rfl (fun _ _ _ _ _ _ h => h.2.2.1), (List.forall_mem_cons.mpr ⟨sp_lw rfl (fun _ _ _ _ _ _ h => h.2.2.1), (List.forall_mem_cons.mpr ⟨sp_lw rfl (fun _ _ _ _ _ _ h => h.2.2.1), (List.forall_mem_cons.mpr ⟨sp_lw rfl (fun _ _ _ _ _ _ h => h.2.2.1), (List.forall_mem_cons.mpr ⟨sp_lw rfl (fun _ _ _ _ _ _ h => h.2.2.1), (List.forall_mem_cons.mpr ⟨sp_lw rfl (fun _ _ _ _ _ _ h => h.2.2.1), (List.forall_mem_cons.mpr ⟨sp_lw rfl (fun _ _ _ _ _ _ h => h.2.2.1), (List.forall_mem_cons.mpr ⟨sp_lw rfl (fun _ _ _ _ _ _ h => h.2.2.1), (List.forall_mem_cons.mpr ⟨sp_lw rfl (fun _ _ _ _ _ _ h => h.2.2.1), (List.forall_mem_cons.mpr ⟨sp_lw rfl (fun _ _ _ _ _ _ h => h.2.2.1), (List.forall_mem_cons.mpr ⟨sp_lw rfl (fun _ _ _ _ _ _ h => h.2.2.1), (List.forall_mem_cons.mpr ⟨sp_lw rfl (fun _ _ _ _ _ _ h => h.2.2.1), (List.forall_mem_cons.mpr ⟨sp_lw rfl (fun _ _ _ _ _ _ h => h.2.2.1), (List.forall_mem_cons.mpr ⟨sp_lw rfl (fun _ _ _ _ _ _ h => h.2.2.1), (List.forall_mem_cons.mpr ⟨sp_lw rfl (fun _ _ _ _ _ _ h => h.2.2.1), (List.forall_mem_cons.mpr ⟨sp_lw rfl (fun _ _ _ _ _ _ h => h.2.2.1), (List.forall_mem_cons.mpr ⟨sp_lw rfl (fun _ _ _ _ _ _ h => h.2.2.1), (fun _ h => absurd h List.not_mem_nil)⟩)⟩)⟩)⟩)⟩)⟩)⟩)⟩)⟩)⟩)⟩)⟩)⟩)⟩)⟩)⟩)⟩)⟩)⟩)⟩)⟩)⟩)⟩)⟩)⟩)⟩)⟩)⟩)⟩)⟩)⟩)⟩)⟩)⟩)⟩)⟩)⟩)⟩)⟩)⟩)⟩)⟩)⟩)⟩)⟩)⟩)⟩)⟩)⟩)⟩)⟩)⟩)⟩)⟩)⟩)⟩)⟩)⟩)⟩)⟩)⟩)⟩)⟩)⟩)⟩)⟩)⟩)⟩)⟩)⟩)⟩)⟩)⟩)⟩)⟩)⟩)⟩)⟩)⟩)⟩)⟩)⟩)⟩)⟩)⟩)⟩)⟩)⟩)⟩)⟩)⟩)⟩)⟩)⟩)⟩)⟩)⟩)⟩)⟩)⟩)⟩)⟩)
/-- what holds at the loop's head and at each case -/
def I_lw (q1 q2 b : Nat) (J : lW → Prop) : fL_ → List Value → lW → Prop := fun lg vs w => ∃ i : Int32, f_sub [(3, false, .int i), (2, false, .ref q2), (1, false, .ref q1), (0, false, .ref b)] lg ∧ vs = [] ∧ J w
def H_lw (q1 q2 b : Nat) (J : lW → Prop) : fI lW := [(18, I_lw q1 q2 b J), (252, I_lw q1 q2 b J)]
/-- what is asked of the pairs of calls -/
def pq_read (q1 q2 : Nat) (J : lW → Prop) : Prop := ∀ (w w1 w2 : lW) (rv1 rv2 : Option Value) (a0 a1 a2 a3 : Int32), J w → fLr r_X11_read [.ref q1, .int a0, .int a1, .int a2, .int a3] w rv1 w1 → fLr r_X12_read [.ref q2, .int a0, .int a1, .int a2, .int a3] w1 rv2 w2 → J w2
def pq_make (q1 q2 : Nat) (J : lW → Prop) : Prop := ∀ (w w1 w2 : lW) (rv1 rv2 : Option Value) (a0 a1 a2 : Int32), J w → fLr r_X11_make [.ref q1, .int a0, .int a1, .int a2] w rv1 w1 → fLr r_X12_make [.ref q2, .int a0, .int a1, .int a2] w1 rv2 w2 → J w2
def pq_worlds (q1 q2 : Nat) (J : lW → Prop) : Prop := ∀ (w w1 w2 : lW) (rv1 rv2 : Option Value) (a0 : Int32), J w → fLr r_X11_worlds [.ref q1, .int a0] w rv1 w1 → fLr r_X12_worlds [.ref q2, .int a0] w1 rv2 w2 → J w2
def pq_truth (q1 q2 : Nat) (J : lW → Prop) : Prop := ∀ (w w1 w2 : lW) (rv1 rv2 : Option Value) (a0 a1 : Int32), J w → fLr r_X11_truth [.ref q1, .int a0, .int a1] w rv1 w1 → fLr r_X12_truth [.ref q2, .int a0, .int a1] w1 rv2 w2 → J w2
def pq_compare (q1 q2 : Nat) (J : lW → Prop) : Prop := ∀ (w w1 w2 : lW) (rv1 rv2 : Option Value) (a0 a1 : Int32), J w → fLr r_X11_compare [.ref q1, .int a0, .int a1] w rv1 w1 → fLr r_X12_compare [.ref q2, .int a0, .int a1] w1 rv2 w2 → J w2
def pq_trust (q1 q2 : Nat) (J : lW → Prop) : Prop := ∀ (w w1 w2 : lW) (rv1 rv2 : Option Value) (a0 a1 : Int32), J w → fLr r_X11_trust [.ref q1, .int a0, .int a1] w rv1 w1 → fLr r_X12_trust [.ref q2, .int a0, .int a1] w1 rv2 w2 → J w2
def pq_hold (q1 q2 : Nat) (J : lW → Prop) : Prop := ∀ (w w1 w2 : lW) (rv1 rv2 : Option Value) (a0 a1 a2 a3 a4 : Int32), J w → fLr r_X11_hold [.ref q1, .int a0, .int a1, .int a2, .int a3, .int a4] w rv1 w1 → fLr r_X12_hold [.ref q2, .int a0, .int a1, .int a2, .int a3, .int a4] w1 rv2 w2 → J w2
def pq_view (q1 q2 : Nat) (J : lW → Prop) : Prop := ∀ (w w1 w2 : lW) (rv1 rv2 : Option Value) (a0 a1 : Int32), J w → fLr r_X11_view [.ref q1, .int a0, .int a1] w rv1 w1 → fLr r_X12_view [.ref q2, .int a0, .int a1] w1 rv2 w2 → J w2
def pq_entry (q1 q2 : Nat) (J : lW → Prop) : Prop := ∀ (w w1 w2 : lW) (rv1 rv2 : Option Value) (a0 a1 : Int32), J w → fLr r_X11_entry [.ref q1, .int a0, .int a1] w rv1 w1 → fLr r_X12_entry [.ref q2, .int a0, .int a1] w1 rv2 w2 → J w2
def pq_drop (q1 q2 : Nat) (J : lW → Prop) : Prop := ∀ (w w1 w2 : lW) (rv1 rv2 : Option Value) (a0 a1 : Int32), J w → fLr r_X11_drop [.ref q1, .int a0, .int a1] w rv1 w1 → fLr r_X12_drop [.ref q2, .int a0, .int a1] w1 rv2 w2 → J w2
def pq_weight (q1 q2 : Nat) (J : lW → Prop) : Prop := ∀ (w w1 w2 : lW) (rv1 rv2 : Option Value) (a0 : Int32), J w → fLr r_X11_weight [.ref q1, .int a0] w rv1 w1 → fLr r_X12_weight [.ref q2, .int a0] w1 rv2 w2 → J w2
def pq_together (q1 q2 : Nat) (J : lW → Prop) : Prop := ∀ (w w1 w2 : lW) (rv1 rv2 : Option Value) (a0 : Int32), J w → fLr r_X11_together [.ref q1, .int a0] w rv1 w1 → fLr r_X12_together [.ref q2, .int a0] w1 rv2 w2 → J w2
def pq_reasons (q1 q2 : Nat) (J : lW → Prop) : Prop := ∀ (w w1 w2 : lW) (rv1 rv2 : Option Value) (a0 a1 : Int32), J w → fLr r_X11_reasons [.ref q1, .int a0, .int a1] w rv1 w1 → fLr r_X12_reasons [.ref q2, .int a0, .int a1] w1 rv2 w2 → J w2
def pq_reason (q1 q2 : Nat) (J : lW → Prop) : Prop := ∀ (w w1 w2 : lW) (rv1 rv2 : Option Value) (a0 a1 a2 : Int32), J w → fLr r_X11_reason [.ref q1, .int a0, .int a1, .int a2] w rv1 w1 → fLr r_X12_reason [.ref q2, .int a0, .int a1, .int a2] w1 rv2 w2 → J w2
def pq_harmonies (q1 q2 : Nat) (J : lW → Prop) : Prop := ∀ (w w1 w2 : lW) (rv1 rv2 : Option Value) (a0 : Int32), J w → fLr r_X11_harmonies [.ref q1, .int a0] w rv1 w1 → fLr r_X12_harmonies [.ref q2, .int a0] w1 rv2 w2 → J w2
def pq_harmony (q1 q2 : Nat) (J : lW → Prop) : Prop := ∀ (w w1 w2 : lW) (rv1 rv2 : Option Value) (a0 a1 : Int32), J w → fLr r_X11_harmony [.ref q1, .int a0, .int a1] w rv1 w1 → fLr r_X12_harmony [.ref q2, .int a0, .int a1] w1 rv2 w2 → J w2
def pq_held (q1 q2 : Nat) (J : lW → Prop) : Prop := ∀ (w w1 w2 : lW) (rv1 rv2 : Option Value) (a0 a1 : Int32), J w → fLr r_X11_held [.ref q1, .int a0, .int a1] w rv1 w1 → fLr r_X12_held [.ref q2, .int a0, .int a1] w1 rv2 w2 → J w2
def pq_cuts (q1 q2 : Nat) (J : lW → Prop) : Prop := ∀ (w w1 w2 : lW) (rv1 rv2 : Option Value) (a0 : Int32), J w → fLr r_X11_cuts [.ref q1, .int a0] w rv1 w1 → fLr r_X12_cuts [.ref q2, .int a0] w1 rv2 w2 → J w2
def pq_cutOf (q1 q2 : Nat) (J : lW → Prop) : Prop := ∀ (w w1 w2 : lW) (rv1 rv2 : Option Value) (a0 a1 : Int32), J w → fLr r_X11_cutOf [.ref q1, .int a0, .int a1] w rv1 w1 → fLr r_X12_cutOf [.ref q2, .int a0, .int a1] w1 rv2 w2 → J w2
def pq_least (q1 q2 : Nat) (J : lW → Prop) : Prop := ∀ (w w1 w2 : lW) (rv1 rv2 : Option Value) (a0 : Int32), J w → fLr r_X11_least [.ref q1, .int a0] w rv1 w1 → fLr r_X12_least [.ref q2, .int a0] w1 rv2 w2 → J w2
def pq_giveUp (q1 q2 : Nat) (J : lW → Prop) : Prop := ∀ (w w1 w2 : lW) (rv1 rv2 : Option Value) (a0 : Int32), J w → fLr r_X11_giveUp [.ref q1, .int a0] w rv1 w1 → fLr r_X12_giveUp [.ref q2, .int a0] w1 rv2 w2 → J w2
def pq_news (q1 q2 : Nat) (J : lW → Prop) : Prop := ∀ (w w1 w2 : lW) (rv1 rv2 : Option Value) (a0 a1 : Int32), J w → fLr r_X11_news [.ref q1, .int a0, .int a1] w rv1 w1 → fLr r_X12_news [.ref q2, .int a0, .int a1] w1 rv2 w2 → J w2
def pq_postulate (q1 q2 : Nat) (J : lW → Prop) : Prop := ∀ (w w1 w2 : lW) (rv1 rv2 : Option Value) (a0 a1 : Int32), J w → fLr r_X11_postulate [.ref q1, .int a0, .int a1] w rv1 w1 → fLr r_X12_postulate [.ref q2, .int a0, .int a1] w1 rv2 w2 → J w2
def pq_rule (q1 q2 : Nat) (J : lW → Prop) : Prop := ∀ (w w1 w2 : lW) (rv1 rv2 : Option Value) (a0 a1 a2 a3 a4 : Int32), J w → fLr r_X11_rule [.ref q1, .int a0, .int a1, .int a2, .int a3, .int a4] w rv1 w1 → fLr r_X12_rule [.ref q2, .int a0, .int a1, .int a2, .int a3, .int a4] w1 rv2 w2 → J w2
def pq_ruled (q1 q2 : Nat) (J : lW → Prop) : Prop := ∀ (w w1 w2 : lW) (rv1 rv2 : Option Value) (a0 a1 : Int32), J w → fLr r_X11_ruled [.ref q1, .int a0, .int a1] w rv1 w1 → fLr r_X12_ruled [.ref q2, .int a0, .int a1] w1 rv2 w2 → J w2
def pq_extensions (q1 q2 : Nat) (J : lW → Prop) : Prop := ∀ (w w1 w2 : lW) (rv1 rv2 : Option Value) (a0 : Int32), J w → fLr r_X11_extensions [.ref q1, .int a0] w rv1 w1 → fLr r_X12_extensions [.ref q2, .int a0] w1 rv2 w2 → J w2
def pq_extension (q1 q2 : Nat) (J : lW → Prop) : Prop := ∀ (w w1 w2 : lW) (rv1 rv2 : Option Value) (a0 a1 : Int32), J w → fLr r_X11_extension [.ref q1, .int a0, .int a1] w rv1 w1 → fLr r_X12_extension [.ref q2, .int a0, .int a1] w1 rv2 w2 → J w2
def pq_concluded (q1 q2 : Nat) (J : lW → Prop) : Prop := ∀ (w w1 w2 : lW) (rv1 rv2 : Option Value) (a0 a1 : Int32), J w → fLr r_X11_concluded [.ref q1, .int a0, .int a1] w rv1 w1 → fLr r_X12_concluded [.ref q2, .int a0, .int a1] w1 rv2 w2 → J w2
def pq_claim (q1 q2 : Nat) (J : lW → Prop) : Prop := ∀ (w w1 w2 : lW) (rv1 rv2 : Option Value) (a0 a1 : Int32), J w → fLr r_X11_claim [.ref q1, .int a0, .int a1] w rv1 w1 → fLr r_X12_claim [.ref q2, .int a0, .int a1] w1 rv2 w2 → J w2
def pq_strikes (q1 q2 : Nat) (J : lW → Prop) : Prop := ∀ (w w1 w2 : lW) (rv1 rv2 : Option Value) (a0 a1 : Int32), J w → fLr r_X11_strikes [.ref q1, .int a0, .int a1] w rv1 w1 → fLr r_X12_strikes [.ref q2, .int a0, .int a1] w1 rv2 w2 → J w2
def pq_claimed (q1 q2 : Nat) (J : lW → Prop) : Prop := ∀ (w w1 w2 : lW) (rv1 rv2 : Option Value) (a0 a1 : Int32), J w → fLr r_X11_claimed [.ref q1, .int a0, .int a1] w rv1 w1 → fLr r_X12_claimed [.ref q2, .int a0, .int a1] w1 rv2 w2 → J w2
def pq_sets (q1 q2 : Nat) (J : lW → Prop) : Prop := ∀ (w w1 w2 : lW) (rv1 rv2 : Option Value) (a0 : Int32), J w → fLr r_X11_sets [.ref q1, .int a0] w rv1 w1 → fLr r_X12_sets [.ref q2, .int a0] w1 rv2 w2 → J w2
def pq_setOf (q1 q2 : Nat) (J : lW → Prop) : Prop := ∀ (w w1 w2 : lW) (rv1 rv2 : Option Value) (a0 a1 : Int32), J w → fLr r_X11_setOf [.ref q1, .int a0, .int a1] w rv1 w1 → fLr r_X12_setOf [.ref q2, .int a0, .int a1] w1 rv2 w2 → J w2
def pq_parts (q1 q2 : Nat) (J : lW → Prop) : Prop := ∀ (w w1 w2 : lW) (rv1 rv2 : Option Value), J w → fLr r_X11_parts [.ref q1] w rv1 w1 → fLr r_X12_parts [.ref q2] w1 rv2 w2 → J w2
def pq_far (q1 q2 : Nat) (J : lW → Prop) : Prop := ∀ (w w1 w2 : lW) (rv1 rv2 : Option Value) (a0 a1 : Int32), J w → fLr r_X11_far [.ref q1, .int a0, .int a1] w rv1 w1 → fLr r_X12_far [.ref q2, .int a0, .int a1] w1 rv2 w2 → J w2
def pq_merged (q1 q2 : Nat) (J : lW → Prop) : Prop := ∀ (w w1 w2 : lW) (rv1 rv2 : Option Value) (a0 : Int32), J w → fLr r_X11_merged [.ref q1, .int a0] w rv1 w1 → fLr r_X12_merged [.ref q2, .int a0] w1 rv2 w2 → J w2
def pq_mergedWorld (q1 q2 : Nat) (J : lW → Prop) : Prop := ∀ (w w1 w2 : lW) (rv1 rv2 : Option Value) (a0 a1 : Int32), J w → fLr r_X11_mergedWorld [.ref q1, .int a0, .int a1] w rv1 w1 → fLr r_X12_mergedWorld [.ref q2, .int a0, .int a1] w1 rv2 w2 → J w2
def pq_agreed (q1 q2 : Nat) (J : lW → Prop) : Prop := ∀ (w w1 w2 : lW) (rv1 rv2 : Option Value) (a0 a1 : Int32), J w → fLr r_X11_agreed [.ref q1, .int a0, .int a1] w rv1 w1 → fLr r_X12_agreed [.ref q2, .int a0, .int a1] w1 rv2 w2 → J w2
def pq_take (q1 q2 : Nat) (J : lW → Prop) : Prop := ∀ (w w1 w2 : lW) (rv1 rv2 : Option Value) (a0 a1 a2 : Int32), J w → fLr r_X11_take [.ref q1, .int a0, .int a1, .int a2] w rv1 w1 → fLr r_X12_take [.ref q2, .int a0, .int a1, .int a2] w1 rv2 w2 → J w2
def pq_loose (q1 q2 : Nat) (J : lW → Prop) : Prop := ∀ (w w1 w2 : lW) (rv1 rv2 : Option Value) (a0 : Int32), J w → fLr r_X11_loose [.ref q1, .int a0] w rv1 w1 → fLr r_X12_loose [.ref q2, .int a0] w1 rv2 w2 → J w2
def pq_as (q1 q2 : Nat) (J : lW → Prop) : Prop := ∀ (w w1 w2 : lW) (rv1 rv2 : Option Value) (a0 a1 : Int32), J w → fLr r_X11_as [.ref q1, .int a0, .int a1] w rv1 w1 → fLr r_X12_as [.ref q2, .int a0, .int a1] w1 rv2 w2 → rv1 = rv2 ∧ J w2
def pq_tell (q1 q2 : Nat) (J : lW → Prop) : Prop := ∀ (w w1 w2 : lW) (rv1 rv2 : Option Value) (a0 : Int32), J w → fLr r_X11_tell [.ref q1, .int a0] w rv1 w1 → fLr r_X12_tell [.ref q2, .int a0] w1 rv2 w2 → J w2
def pq_show (q1 q2 : Nat) (J : lW → Prop) : Prop := ∀ (w w1 w2 : lW) (rv1 rv2 : Option Value) (a0 : Int32), J w → fLr r_X11_show [.ref q1, .int a0] w rv1 w1 → fLr r_X12_show [.ref q2, .int a0] w1 rv2 w2 → J w2
def pq_sheet (q1 q2 : Nat) (J : lW → Prop) : Prop := ∀ (w w1 w2 : lW) (rv1 rv2 : Option Value) (a0 a1 a2 : Int32), J w → fLr r_X11_sheet [.ref q1, .int a0, .int a1, .int a2] w rv1 w1 → fLr r_X12_sheet [.ref q2, .int a0, .int a1, .int a2] w1 rv2 w2 → J w2
def pq_lose (q1 q2 : Nat) (J : lW → Prop) : Prop := ∀ (w w1 w2 : lW) (rv1 rv2 : Option Value) (a0 : Int32), J w → fLr r_X11_lose [.ref q1, .int a0] w rv1 w1 → fLr r_X12_lose [.ref q2, .int a0] w1 rv2 w2 → J w2
def pq_put (q1 q2 : Nat) (J : lW → Prop) : Prop := ∀ (w w1 w2 : lW) (rv1 rv2 : Option Value) (a0 a1 a2 : Int32), J w → fLr r_X11_put [.ref q1, .int a0, .int a1, .int a2] w rv1 w1 → fLr r_X12_put [.ref q2, .int a0, .int a1, .int a2] w1 rv2 w2 → J w2
def pq_cell (q1 q2 : Nat) (J : lW → Prop) : Prop := ∀ (w w1 w2 : lW) (rv1 rv2 : Option Value) (a0 a1 a2 : Int32), J w → fLr r_X11_cell [.ref q1, .int a0, .int a1, .int a2] w rv1 w1 → fLr r_X12_cell [.ref q2, .int a0, .int a1, .int a2] w1 rv2 w2 → J w2
def pq_copy (q1 q2 : Nat) (J : lW → Prop) : Prop := ∀ (w w1 w2 : lW) (rv1 rv2 : Option Value) (a0 a1 a2 a3 a4 : Int32), J w → fLr r_X11_copy [.ref q1, .int a0, .int a1, .int a2, .int a3, .int a4] w rv1 w1 → fLr r_X12_copy [.ref q2, .int a0, .int a1, .int a2, .int a3, .int a4] w1 rv2 w2 → J w2
def pq_trace (q1 q2 : Nat) (J : lW → Prop) : Prop := ∀ (w w1 w2 : lW) (rv1 rv2 : Option Value), J w → fLr r_X11_trace [.ref q1] w rv1 w1 → fLr r_X12_trace [.ref q2] w1 rv2 w2 → J w2
def pq_fault (q1 q2 : Nat) (J : lW → Prop) : Prop := ∀ (w w1 w2 : lW) (rv1 rv2 : Option Value), J w → fLr r_X11_fault [.ref q1] w rv1 w1 → fLr r_X12_fault [.ref q2] w1 rv2 w2 → J w2
def pq_many (q1 q2 : Nat) (J : lW → Prop) : Prop := ∀ (w w1 w2 : lW) (rv1 rv2 : Option Value) (a0 : Int32), J w → fLr r_X11_many [.ref q1, .int a0] w rv1 w1 → fLr r_X12_many [.ref q2, .int a0] w1 rv2 w2 → J w2
set_option maxHeartbeats 4000000 in
set_option maxRecDepth 100000 in
theorem lc_252 {q1 q2 b L : Nat} {xs : Nat → Int32} {J : lW → Prop} (hp : pq_read q1 q2 J) : ∀ (lg : fL_) (vs : List Value) (w : lW), I_lw q1 q2 b J lg vs w → ∃ (l : fL_) (f : Nat), f_sub l lg ∧ wh oL (T_lw b L xs) Sp_lw P_lw K_law (H_lw q1 q2 b J) f 252 l vs w := by
  rintro lg vs w ⟨i, hs, rfl, hJ⟩
  refine ⟨_, 100, hs, ?_⟩
  refine ⟨rfl, ?_⟩
  refine ⟨rfl, ?_⟩
  refine ⟨rfl, ?_⟩
  refine ⟨rfl, ?_⟩
  intro rv1 w1 h1
  obtain ⟨x1, rfl⟩ : ∃ x : Int32, rv1 = some (.int x) := h1.2.2.2.2.2
  refine ⟨rfl, ?_⟩
  refine ⟨rfl, ?_⟩
  refine ⟨rfl, ?_⟩
  refine ⟨rfl, ?_⟩
  intro rv2 w2 h2
  obtain ⟨x2, rfl⟩ : ∃ x : Int32, rv2 = some (.int x) := h2.2.2.2.2.2
  have hq := hp w w1 w2 _ _ _ _ _ _ hJ h1 h2
  exact ⟨i + 6, ⟨rfl, rfl, rfl, rfl, trivial⟩, rfl, hq⟩
set_option maxHeartbeats 4000000 in
set_option maxRecDepth 100000 in
theorem lc_305 {q1 q2 b L : Nat} {xs : Nat → Int32} {J : lW → Prop} (hp : pq_make q1 q2 J) : ∀ (y : Instr × Nat) (suf : ck_cd) (i : Int32) (w : lW), J w → wl oL (T_lw b L xs) Sp_lw P_lw K_law (H_lw q1 q2 b J) 189 ((252, y) :: suf) 305 [(3, false, .int i), (2, false, .ref q2), (1, false, .ref q1), (0, false, .ref b)] [] w := by
  intro y suf i w hJ
  refine ⟨rfl, ?_⟩
  refine ⟨rfl, ?_⟩
  refine ⟨rfl, ?_⟩
  intro rv1 w1 h1
  obtain ⟨x1, rfl⟩ : ∃ x : Int32, rv1 = some (.int x) := h1.2.2.2.2.2
  refine ⟨rfl, ?_⟩
  refine ⟨rfl, ?_⟩
  refine ⟨rfl, ?_⟩
  intro rv2 w2 h2
  obtain ⟨x2, rfl⟩ : ∃ x : Int32, rv2 = some (.int x) := h2.2.2.2.2.2
  have hq := hp w w1 w2 _ _ _ _ _ hJ h1 h2
  exact ⟨i + 6, ⟨rfl, rfl, rfl, rfl, trivial⟩, rfl, hq⟩
set_option maxHeartbeats 4000000 in
set_option maxRecDepth 100000 in
theorem lc_348 {q1 q2 b L : Nat} {xs : Nat → Int32} {J : lW → Prop} (hp : pq_worlds q1 q2 J) : ∀ (y : Instr × Nat) (suf : ck_cd) (i : Int32) (w : lW), J w → wl oL (T_lw b L xs) Sp_lw P_lw K_law (H_lw q1 q2 b J) 189 ((252, y) :: suf) 348 [(3, false, .int i), (2, false, .ref q2), (1, false, .ref q1), (0, false, .ref b)] [] w := by
  intro y suf i w hJ
  refine ⟨rfl, ?_⟩
  intro rv1 w1 h1
  obtain ⟨x1, rfl⟩ : ∃ x : Int32, rv1 = some (.int x) := h1.2.2.2.2.2
  refine ⟨rfl, ?_⟩
  intro rv2 w2 h2
  obtain ⟨x2, rfl⟩ : ∃ x : Int32, rv2 = some (.int x) := h2.2.2.2.2.2
  have hq := hp w w1 w2 _ _ _ hJ h1 h2
  exact ⟨i + 6, ⟨rfl, rfl, rfl, rfl, trivial⟩, rfl, hq⟩
set_option maxHeartbeats 4000000 in
set_option maxRecDepth 100000 in
theorem lc_371 {q1 q2 b L : Nat} {xs : Nat → Int32} {J : lW → Prop} (hp : pq_truth q1 q2 J) : ∀ (y : Instr × Nat) (suf : ck_cd) (i : Int32) (w : lW), J w → wl oL (T_lw b L xs) Sp_lw P_lw K_law (H_lw q1 q2 b J) 189 ((252, y) :: suf) 371 [(3, false, .int i), (2, false, .ref q2), (1, false, .ref q1), (0, false, .ref b)] [] w := by
  intro y suf i w hJ
  refine ⟨rfl, ?_⟩
  refine ⟨rfl, ?_⟩
  intro rv1 w1 h1
  obtain ⟨x1, rfl⟩ : ∃ x : Int32, rv1 = some (.int x) := h1.2.2.2.2.2
  refine ⟨rfl, ?_⟩
  refine ⟨rfl, ?_⟩
  intro rv2 w2 h2
  obtain ⟨x2, rfl⟩ : ∃ x : Int32, rv2 = some (.int x) := h2.2.2.2.2.2
  have hq := hp w w1 w2 _ _ _ _ hJ h1 h2
  exact ⟨i + 6, ⟨rfl, rfl, rfl, rfl, trivial⟩, rfl, hq⟩
set_option maxHeartbeats 4000000 in
set_option maxRecDepth 100000 in
theorem lc_404 {q1 q2 b L : Nat} {xs : Nat → Int32} {J : lW → Prop} (hp : pq_compare q1 q2 J) : ∀ (y : Instr × Nat) (suf : ck_cd) (i : Int32) (w : lW), J w → wl oL (T_lw b L xs) Sp_lw P_lw K_law (H_lw q1 q2 b J) 189 ((252, y) :: suf) 404 [(3, false, .int i), (2, false, .ref q2), (1, false, .ref q1), (0, false, .ref b)] [] w := by
  intro y suf i w hJ
  refine ⟨rfl, ?_⟩
  refine ⟨rfl, ?_⟩
  intro rv1 w1 h1
  obtain ⟨x1, rfl⟩ : ∃ x : Int32, rv1 = some (.int x) := h1.2.2.2.2.2
  refine ⟨rfl, ?_⟩
  refine ⟨rfl, ?_⟩
  intro rv2 w2 h2
  obtain ⟨x2, rfl⟩ : ∃ x : Int32, rv2 = some (.int x) := h2.2.2.2.2.2
  have hq := hp w w1 w2 _ _ _ _ hJ h1 h2
  exact ⟨i + 6, ⟨rfl, rfl, rfl, rfl, trivial⟩, rfl, hq⟩
set_option maxHeartbeats 4000000 in
set_option maxRecDepth 100000 in
theorem lc_437 {q1 q2 b L : Nat} {xs : Nat → Int32} {J : lW → Prop} (hp : pq_trust q1 q2 J) : ∀ (y : Instr × Nat) (suf : ck_cd) (i : Int32) (w : lW), J w → wl oL (T_lw b L xs) Sp_lw P_lw K_law (H_lw q1 q2 b J) 189 ((252, y) :: suf) 437 [(3, false, .int i), (2, false, .ref q2), (1, false, .ref q1), (0, false, .ref b)] [] w := by
  intro y suf i w hJ
  refine ⟨rfl, ?_⟩
  refine ⟨rfl, ?_⟩
  intro rv1 w1 h1
  obtain ⟨x1, rfl⟩ : ∃ x : Int32, rv1 = some (.int x) := h1.2.2.2.2.2
  refine ⟨rfl, ?_⟩
  refine ⟨rfl, ?_⟩
  intro rv2 w2 h2
  obtain ⟨x2, rfl⟩ : ∃ x : Int32, rv2 = some (.int x) := h2.2.2.2.2.2
  have hq := hp w w1 w2 _ _ _ _ hJ h1 h2
  exact ⟨i + 6, ⟨rfl, rfl, rfl, rfl, trivial⟩, rfl, hq⟩
set_option maxHeartbeats 4000000 in
set_option maxRecDepth 100000 in
theorem lc_470 {q1 q2 b L : Nat} {xs : Nat → Int32} {J : lW → Prop} (hp : pq_hold q1 q2 J) : ∀ (y : Instr × Nat) (suf : ck_cd) (i : Int32) (w : lW), J w → wl oL (T_lw b L xs) Sp_lw P_lw K_law (H_lw q1 q2 b J) 189 ((252, y) :: suf) 470 [(3, false, .int i), (2, false, .ref q2), (1, false, .ref q1), (0, false, .ref b)] [] w := by
  intro y suf i w hJ
  refine ⟨rfl, ?_⟩
  refine ⟨rfl, ?_⟩
  refine ⟨rfl, ?_⟩
  refine ⟨rfl, ?_⟩
  refine ⟨rfl, ?_⟩
  intro rv1 w1 h1
  obtain ⟨x1, rfl⟩ : ∃ x : Int32, rv1 = some (.int x) := h1.2.2.2.2.2
  refine ⟨rfl, ?_⟩
  refine ⟨rfl, ?_⟩
  refine ⟨rfl, ?_⟩
  refine ⟨rfl, ?_⟩
  refine ⟨rfl, ?_⟩
  intro rv2 w2 h2
  obtain ⟨x2, rfl⟩ : ∃ x : Int32, rv2 = some (.int x) := h2.2.2.2.2.2
  have hq := hp w w1 w2 _ _ _ _ _ _ _ hJ h1 h2
  exact ⟨i + 6, ⟨rfl, rfl, rfl, rfl, trivial⟩, rfl, hq⟩
set_option maxHeartbeats 4000000 in
set_option maxRecDepth 100000 in
theorem lc_533 {q1 q2 b L : Nat} {xs : Nat → Int32} {J : lW → Prop} (hp : pq_view q1 q2 J) : ∀ (y : Instr × Nat) (suf : ck_cd) (i : Int32) (w : lW), J w → wl oL (T_lw b L xs) Sp_lw P_lw K_law (H_lw q1 q2 b J) 189 ((252, y) :: suf) 533 [(3, false, .int i), (2, false, .ref q2), (1, false, .ref q1), (0, false, .ref b)] [] w := by
  intro y suf i w hJ
  refine ⟨rfl, ?_⟩
  refine ⟨rfl, ?_⟩
  intro rv1 w1 h1
  obtain ⟨x1, rfl⟩ : ∃ x : Int32, rv1 = some (.int x) := h1.2.2.2.2.2
  refine ⟨rfl, ?_⟩
  refine ⟨rfl, ?_⟩
  intro rv2 w2 h2
  obtain ⟨x2, rfl⟩ : ∃ x : Int32, rv2 = some (.int x) := h2.2.2.2.2.2
  have hq := hp w w1 w2 _ _ _ _ hJ h1 h2
  exact ⟨i + 6, ⟨rfl, rfl, rfl, rfl, trivial⟩, rfl, hq⟩
set_option maxHeartbeats 4000000 in
set_option maxRecDepth 100000 in
theorem lc_566 {q1 q2 b L : Nat} {xs : Nat → Int32} {J : lW → Prop} (hp : pq_entry q1 q2 J) : ∀ (y : Instr × Nat) (suf : ck_cd) (i : Int32) (w : lW), J w → wl oL (T_lw b L xs) Sp_lw P_lw K_law (H_lw q1 q2 b J) 189 ((252, y) :: suf) 566 [(3, false, .int i), (2, false, .ref q2), (1, false, .ref q1), (0, false, .ref b)] [] w := by
  intro y suf i w hJ
  refine ⟨rfl, ?_⟩
  refine ⟨rfl, ?_⟩
  intro rv1 w1 h1
  obtain ⟨x1, rfl⟩ : ∃ x : Int32, rv1 = some (.int x) := h1.2.2.2.2.2
  refine ⟨rfl, ?_⟩
  refine ⟨rfl, ?_⟩
  intro rv2 w2 h2
  obtain ⟨x2, rfl⟩ : ∃ x : Int32, rv2 = some (.int x) := h2.2.2.2.2.2
  have hq := hp w w1 w2 _ _ _ _ hJ h1 h2
  exact ⟨i + 6, ⟨rfl, rfl, rfl, rfl, trivial⟩, rfl, hq⟩
set_option maxHeartbeats 4000000 in
set_option maxRecDepth 100000 in
theorem lc_599 {q1 q2 b L : Nat} {xs : Nat → Int32} {J : lW → Prop} (hp : pq_drop q1 q2 J) : ∀ (y : Instr × Nat) (suf : ck_cd) (i : Int32) (w : lW), J w → wl oL (T_lw b L xs) Sp_lw P_lw K_law (H_lw q1 q2 b J) 189 ((252, y) :: suf) 599 [(3, false, .int i), (2, false, .ref q2), (1, false, .ref q1), (0, false, .ref b)] [] w := by
  intro y suf i w hJ
  refine ⟨rfl, ?_⟩
  refine ⟨rfl, ?_⟩
  intro rv1 w1 h1
  obtain ⟨x1, rfl⟩ : ∃ x : Int32, rv1 = some (.int x) := h1.2.2.2.2.2
  refine ⟨rfl, ?_⟩
  refine ⟨rfl, ?_⟩
  intro rv2 w2 h2
  obtain ⟨x2, rfl⟩ : ∃ x : Int32, rv2 = some (.int x) := h2.2.2.2.2.2
  have hq := hp w w1 w2 _ _ _ _ hJ h1 h2
  exact ⟨i + 6, ⟨rfl, rfl, rfl, rfl, trivial⟩, rfl, hq⟩
set_option maxHeartbeats 4000000 in
set_option maxRecDepth 100000 in
theorem lc_632 {q1 q2 b L : Nat} {xs : Nat → Int32} {J : lW → Prop} (hp : pq_weight q1 q2 J) : ∀ (y : Instr × Nat) (suf : ck_cd) (i : Int32) (w : lW), J w → wl oL (T_lw b L xs) Sp_lw P_lw K_law (H_lw q1 q2 b J) 189 ((252, y) :: suf) 632 [(3, false, .int i), (2, false, .ref q2), (1, false, .ref q1), (0, false, .ref b)] [] w := by
  intro y suf i w hJ
  refine ⟨rfl, ?_⟩
  intro rv1 w1 h1
  obtain ⟨x1, rfl⟩ : ∃ x : Int32, rv1 = some (.int x) := h1.2.2.2.2.2
  refine ⟨rfl, ?_⟩
  intro rv2 w2 h2
  obtain ⟨x2, rfl⟩ : ∃ x : Int32, rv2 = some (.int x) := h2.2.2.2.2.2
  have hq := hp w w1 w2 _ _ _ hJ h1 h2
  exact ⟨i + 6, ⟨rfl, rfl, rfl, rfl, trivial⟩, rfl, hq⟩
set_option maxHeartbeats 4000000 in
set_option maxRecDepth 100000 in
theorem lc_655 {q1 q2 b L : Nat} {xs : Nat → Int32} {J : lW → Prop} (hp : pq_together q1 q2 J) : ∀ (y : Instr × Nat) (suf : ck_cd) (i : Int32) (w : lW), J w → wl oL (T_lw b L xs) Sp_lw P_lw K_law (H_lw q1 q2 b J) 189 ((252, y) :: suf) 655 [(3, false, .int i), (2, false, .ref q2), (1, false, .ref q1), (0, false, .ref b)] [] w := by
  intro y suf i w hJ
  refine ⟨rfl, ?_⟩
  intro rv1 w1 h1
  obtain ⟨x1, rfl⟩ : ∃ x : Int32, rv1 = some (.int x) := h1.2.2.2.2.2
  refine ⟨rfl, ?_⟩
  intro rv2 w2 h2
  obtain ⟨x2, rfl⟩ : ∃ x : Int32, rv2 = some (.int x) := h2.2.2.2.2.2
  have hq := hp w w1 w2 _ _ _ hJ h1 h2
  exact ⟨i + 6, ⟨rfl, rfl, rfl, rfl, trivial⟩, rfl, hq⟩
set_option maxHeartbeats 4000000 in
set_option maxRecDepth 100000 in
theorem lc_678 {q1 q2 b L : Nat} {xs : Nat → Int32} {J : lW → Prop} (hp : pq_reasons q1 q2 J) : ∀ (y : Instr × Nat) (suf : ck_cd) (i : Int32) (w : lW), J w → wl oL (T_lw b L xs) Sp_lw P_lw K_law (H_lw q1 q2 b J) 189 ((252, y) :: suf) 678 [(3, false, .int i), (2, false, .ref q2), (1, false, .ref q1), (0, false, .ref b)] [] w := by
  intro y suf i w hJ
  refine ⟨rfl, ?_⟩
  refine ⟨rfl, ?_⟩
  intro rv1 w1 h1
  obtain ⟨x1, rfl⟩ : ∃ x : Int32, rv1 = some (.int x) := h1.2.2.2.2.2
  refine ⟨rfl, ?_⟩
  refine ⟨rfl, ?_⟩
  intro rv2 w2 h2
  obtain ⟨x2, rfl⟩ : ∃ x : Int32, rv2 = some (.int x) := h2.2.2.2.2.2
  have hq := hp w w1 w2 _ _ _ _ hJ h1 h2
  exact ⟨i + 6, ⟨rfl, rfl, rfl, rfl, trivial⟩, rfl, hq⟩
set_option maxHeartbeats 4000000 in
set_option maxRecDepth 100000 in
theorem lc_711 {q1 q2 b L : Nat} {xs : Nat → Int32} {J : lW → Prop} (hp : pq_reason q1 q2 J) : ∀ (y : Instr × Nat) (suf : ck_cd) (i : Int32) (w : lW), J w → wl oL (T_lw b L xs) Sp_lw P_lw K_law (H_lw q1 q2 b J) 189 ((252, y) :: suf) 711 [(3, false, .int i), (2, false, .ref q2), (1, false, .ref q1), (0, false, .ref b)] [] w := by
  intro y suf i w hJ
  refine ⟨rfl, ?_⟩
  refine ⟨rfl, ?_⟩
  refine ⟨rfl, ?_⟩
  intro rv1 w1 h1
  obtain ⟨x1, rfl⟩ : ∃ x : Int32, rv1 = some (.int x) := h1.2.2.2.2.2
  refine ⟨rfl, ?_⟩
  refine ⟨rfl, ?_⟩
  refine ⟨rfl, ?_⟩
  intro rv2 w2 h2
  obtain ⟨x2, rfl⟩ : ∃ x : Int32, rv2 = some (.int x) := h2.2.2.2.2.2
  have hq := hp w w1 w2 _ _ _ _ _ hJ h1 h2
  exact ⟨i + 6, ⟨rfl, rfl, rfl, rfl, trivial⟩, rfl, hq⟩
set_option maxHeartbeats 4000000 in
set_option maxRecDepth 100000 in
theorem lc_754 {q1 q2 b L : Nat} {xs : Nat → Int32} {J : lW → Prop} (hp : pq_harmonies q1 q2 J) : ∀ (y : Instr × Nat) (suf : ck_cd) (i : Int32) (w : lW), J w → wl oL (T_lw b L xs) Sp_lw P_lw K_law (H_lw q1 q2 b J) 189 ((252, y) :: suf) 754 [(3, false, .int i), (2, false, .ref q2), (1, false, .ref q1), (0, false, .ref b)] [] w := by
  intro y suf i w hJ
  refine ⟨rfl, ?_⟩
  intro rv1 w1 h1
  obtain ⟨x1, rfl⟩ : ∃ x : Int32, rv1 = some (.int x) := h1.2.2.2.2.2
  refine ⟨rfl, ?_⟩
  intro rv2 w2 h2
  obtain ⟨x2, rfl⟩ : ∃ x : Int32, rv2 = some (.int x) := h2.2.2.2.2.2
  have hq := hp w w1 w2 _ _ _ hJ h1 h2
  exact ⟨i + 6, ⟨rfl, rfl, rfl, rfl, trivial⟩, rfl, hq⟩
set_option maxHeartbeats 4000000 in
set_option maxRecDepth 100000 in
theorem lc_777 {q1 q2 b L : Nat} {xs : Nat → Int32} {J : lW → Prop} (hp : pq_harmony q1 q2 J) : ∀ (y : Instr × Nat) (suf : ck_cd) (i : Int32) (w : lW), J w → wl oL (T_lw b L xs) Sp_lw P_lw K_law (H_lw q1 q2 b J) 189 ((252, y) :: suf) 777 [(3, false, .int i), (2, false, .ref q2), (1, false, .ref q1), (0, false, .ref b)] [] w := by
  intro y suf i w hJ
  refine ⟨rfl, ?_⟩
  refine ⟨rfl, ?_⟩
  intro rv1 w1 h1
  obtain ⟨x1, rfl⟩ : ∃ x : Int32, rv1 = some (.int x) := h1.2.2.2.2.2
  refine ⟨rfl, ?_⟩
  refine ⟨rfl, ?_⟩
  intro rv2 w2 h2
  obtain ⟨x2, rfl⟩ : ∃ x : Int32, rv2 = some (.int x) := h2.2.2.2.2.2
  have hq := hp w w1 w2 _ _ _ _ hJ h1 h2
  exact ⟨i + 6, ⟨rfl, rfl, rfl, rfl, trivial⟩, rfl, hq⟩
set_option maxHeartbeats 4000000 in
set_option maxRecDepth 100000 in
theorem lc_810 {q1 q2 b L : Nat} {xs : Nat → Int32} {J : lW → Prop} (hp : pq_held q1 q2 J) : ∀ (y : Instr × Nat) (suf : ck_cd) (i : Int32) (w : lW), J w → wl oL (T_lw b L xs) Sp_lw P_lw K_law (H_lw q1 q2 b J) 189 ((252, y) :: suf) 810 [(3, false, .int i), (2, false, .ref q2), (1, false, .ref q1), (0, false, .ref b)] [] w := by
  intro y suf i w hJ
  refine ⟨rfl, ?_⟩
  refine ⟨rfl, ?_⟩
  intro rv1 w1 h1
  obtain ⟨x1, rfl⟩ : ∃ x : Int32, rv1 = some (.int x) := h1.2.2.2.2.2
  refine ⟨rfl, ?_⟩
  refine ⟨rfl, ?_⟩
  intro rv2 w2 h2
  obtain ⟨x2, rfl⟩ : ∃ x : Int32, rv2 = some (.int x) := h2.2.2.2.2.2
  have hq := hp w w1 w2 _ _ _ _ hJ h1 h2
  exact ⟨i + 6, ⟨rfl, rfl, rfl, rfl, trivial⟩, rfl, hq⟩
set_option maxHeartbeats 4000000 in
set_option maxRecDepth 100000 in
theorem lc_843 {q1 q2 b L : Nat} {xs : Nat → Int32} {J : lW → Prop} (hp : pq_cuts q1 q2 J) : ∀ (y : Instr × Nat) (suf : ck_cd) (i : Int32) (w : lW), J w → wl oL (T_lw b L xs) Sp_lw P_lw K_law (H_lw q1 q2 b J) 189 ((252, y) :: suf) 843 [(3, false, .int i), (2, false, .ref q2), (1, false, .ref q1), (0, false, .ref b)] [] w := by
  intro y suf i w hJ
  refine ⟨rfl, ?_⟩
  intro rv1 w1 h1
  obtain ⟨x1, rfl⟩ : ∃ x : Int32, rv1 = some (.int x) := h1.2.2.2.2.2
  refine ⟨rfl, ?_⟩
  intro rv2 w2 h2
  obtain ⟨x2, rfl⟩ : ∃ x : Int32, rv2 = some (.int x) := h2.2.2.2.2.2
  have hq := hp w w1 w2 _ _ _ hJ h1 h2
  exact ⟨i + 6, ⟨rfl, rfl, rfl, rfl, trivial⟩, rfl, hq⟩
set_option maxHeartbeats 4000000 in
set_option maxRecDepth 100000 in
theorem lc_866 {q1 q2 b L : Nat} {xs : Nat → Int32} {J : lW → Prop} (hp : pq_cutOf q1 q2 J) : ∀ (y : Instr × Nat) (suf : ck_cd) (i : Int32) (w : lW), J w → wl oL (T_lw b L xs) Sp_lw P_lw K_law (H_lw q1 q2 b J) 189 ((252, y) :: suf) 866 [(3, false, .int i), (2, false, .ref q2), (1, false, .ref q1), (0, false, .ref b)] [] w := by
  intro y suf i w hJ
  refine ⟨rfl, ?_⟩
  refine ⟨rfl, ?_⟩
  intro rv1 w1 h1
  obtain ⟨x1, rfl⟩ : ∃ x : Int32, rv1 = some (.int x) := h1.2.2.2.2.2
  refine ⟨rfl, ?_⟩
  refine ⟨rfl, ?_⟩
  intro rv2 w2 h2
  obtain ⟨x2, rfl⟩ : ∃ x : Int32, rv2 = some (.int x) := h2.2.2.2.2.2
  have hq := hp w w1 w2 _ _ _ _ hJ h1 h2
  exact ⟨i + 6, ⟨rfl, rfl, rfl, rfl, trivial⟩, rfl, hq⟩
set_option maxHeartbeats 4000000 in
set_option maxRecDepth 100000 in
theorem lc_899 {q1 q2 b L : Nat} {xs : Nat → Int32} {J : lW → Prop} (hp : pq_least q1 q2 J) : ∀ (y : Instr × Nat) (suf : ck_cd) (i : Int32) (w : lW), J w → wl oL (T_lw b L xs) Sp_lw P_lw K_law (H_lw q1 q2 b J) 189 ((252, y) :: suf) 899 [(3, false, .int i), (2, false, .ref q2), (1, false, .ref q1), (0, false, .ref b)] [] w := by
  intro y suf i w hJ
  refine ⟨rfl, ?_⟩
  intro rv1 w1 h1
  obtain ⟨x1, rfl⟩ : ∃ x : Int32, rv1 = some (.int x) := h1.2.2.2.2.2
  refine ⟨rfl, ?_⟩
  intro rv2 w2 h2
  obtain ⟨x2, rfl⟩ : ∃ x : Int32, rv2 = some (.int x) := h2.2.2.2.2.2
  have hq := hp w w1 w2 _ _ _ hJ h1 h2
  exact ⟨i + 6, ⟨rfl, rfl, rfl, rfl, trivial⟩, rfl, hq⟩
set_option maxHeartbeats 4000000 in
set_option maxRecDepth 100000 in
theorem lc_922 {q1 q2 b L : Nat} {xs : Nat → Int32} {J : lW → Prop} (hp : pq_giveUp q1 q2 J) : ∀ (y : Instr × Nat) (suf : ck_cd) (i : Int32) (w : lW), J w → wl oL (T_lw b L xs) Sp_lw P_lw K_law (H_lw q1 q2 b J) 189 ((252, y) :: suf) 922 [(3, false, .int i), (2, false, .ref q2), (1, false, .ref q1), (0, false, .ref b)] [] w := by
  intro y suf i w hJ
  refine ⟨rfl, ?_⟩
  intro rv1 w1 h1
  obtain ⟨x1, rfl⟩ : ∃ x : Int32, rv1 = some (.int x) := h1.2.2.2.2.2
  refine ⟨rfl, ?_⟩
  intro rv2 w2 h2
  obtain ⟨x2, rfl⟩ : ∃ x : Int32, rv2 = some (.int x) := h2.2.2.2.2.2
  have hq := hp w w1 w2 _ _ _ hJ h1 h2
  exact ⟨i + 6, ⟨rfl, rfl, rfl, rfl, trivial⟩, rfl, hq⟩
set_option maxHeartbeats 4000000 in
set_option maxRecDepth 100000 in
theorem lc_945 {q1 q2 b L : Nat} {xs : Nat → Int32} {J : lW → Prop} (hp : pq_news q1 q2 J) : ∀ (y : Instr × Nat) (suf : ck_cd) (i : Int32) (w : lW), J w → wl oL (T_lw b L xs) Sp_lw P_lw K_law (H_lw q1 q2 b J) 189 ((252, y) :: suf) 945 [(3, false, .int i), (2, false, .ref q2), (1, false, .ref q1), (0, false, .ref b)] [] w := by
  intro y suf i w hJ
  refine ⟨rfl, ?_⟩
  refine ⟨rfl, ?_⟩
  intro rv1 w1 h1
  obtain ⟨x1, rfl⟩ : ∃ x : Int32, rv1 = some (.int x) := h1.2.2.2.2.2
  refine ⟨rfl, ?_⟩
  refine ⟨rfl, ?_⟩
  intro rv2 w2 h2
  obtain ⟨x2, rfl⟩ : ∃ x : Int32, rv2 = some (.int x) := h2.2.2.2.2.2
  have hq := hp w w1 w2 _ _ _ _ hJ h1 h2
  exact ⟨i + 6, ⟨rfl, rfl, rfl, rfl, trivial⟩, rfl, hq⟩
set_option maxHeartbeats 4000000 in
set_option maxRecDepth 100000 in
theorem lc_978 {q1 q2 b L : Nat} {xs : Nat → Int32} {J : lW → Prop} (hp : pq_postulate q1 q2 J) : ∀ (y : Instr × Nat) (suf : ck_cd) (i : Int32) (w : lW), J w → wl oL (T_lw b L xs) Sp_lw P_lw K_law (H_lw q1 q2 b J) 189 ((252, y) :: suf) 978 [(3, false, .int i), (2, false, .ref q2), (1, false, .ref q1), (0, false, .ref b)] [] w := by
  intro y suf i w hJ
  refine ⟨rfl, ?_⟩
  refine ⟨rfl, ?_⟩
  intro rv1 w1 h1
  obtain ⟨x1, rfl⟩ : ∃ x : Int32, rv1 = some (.int x) := h1.2.2.2.2.2
  refine ⟨rfl, ?_⟩
  refine ⟨rfl, ?_⟩
  intro rv2 w2 h2
  obtain ⟨x2, rfl⟩ : ∃ x : Int32, rv2 = some (.int x) := h2.2.2.2.2.2
  have hq := hp w w1 w2 _ _ _ _ hJ h1 h2
  exact ⟨i + 6, ⟨rfl, rfl, rfl, rfl, trivial⟩, rfl, hq⟩
set_option maxHeartbeats 4000000 in
set_option maxRecDepth 100000 in
theorem lc_1011 {q1 q2 b L : Nat} {xs : Nat → Int32} {J : lW → Prop} (hp : pq_rule q1 q2 J) : ∀ (y : Instr × Nat) (suf : ck_cd) (i : Int32) (w : lW), J w → wl oL (T_lw b L xs) Sp_lw P_lw K_law (H_lw q1 q2 b J) 189 ((252, y) :: suf) 1011 [(3, false, .int i), (2, false, .ref q2), (1, false, .ref q1), (0, false, .ref b)] [] w := by
  intro y suf i w hJ
  refine ⟨rfl, ?_⟩
  refine ⟨rfl, ?_⟩
  refine ⟨rfl, ?_⟩
  refine ⟨rfl, ?_⟩
  refine ⟨rfl, ?_⟩
  intro rv1 w1 h1
  obtain ⟨x1, rfl⟩ : ∃ x : Int32, rv1 = some (.int x) := h1.2.2.2.2.2
  refine ⟨rfl, ?_⟩
  refine ⟨rfl, ?_⟩
  refine ⟨rfl, ?_⟩
  refine ⟨rfl, ?_⟩
  refine ⟨rfl, ?_⟩
  intro rv2 w2 h2
  obtain ⟨x2, rfl⟩ : ∃ x : Int32, rv2 = some (.int x) := h2.2.2.2.2.2
  have hq := hp w w1 w2 _ _ _ _ _ _ _ hJ h1 h2
  exact ⟨i + 6, ⟨rfl, rfl, rfl, rfl, trivial⟩, rfl, hq⟩
set_option maxHeartbeats 4000000 in
set_option maxRecDepth 100000 in
theorem lc_1074 {q1 q2 b L : Nat} {xs : Nat → Int32} {J : lW → Prop} (hp : pq_ruled q1 q2 J) : ∀ (y : Instr × Nat) (suf : ck_cd) (i : Int32) (w : lW), J w → wl oL (T_lw b L xs) Sp_lw P_lw K_law (H_lw q1 q2 b J) 189 ((252, y) :: suf) 1074 [(3, false, .int i), (2, false, .ref q2), (1, false, .ref q1), (0, false, .ref b)] [] w := by
  intro y suf i w hJ
  refine ⟨rfl, ?_⟩
  refine ⟨rfl, ?_⟩
  intro rv1 w1 h1
  obtain ⟨x1, rfl⟩ : ∃ x : Int32, rv1 = some (.int x) := h1.2.2.2.2.2
  refine ⟨rfl, ?_⟩
  refine ⟨rfl, ?_⟩
  intro rv2 w2 h2
  obtain ⟨x2, rfl⟩ : ∃ x : Int32, rv2 = some (.int x) := h2.2.2.2.2.2
  have hq := hp w w1 w2 _ _ _ _ hJ h1 h2
  exact ⟨i + 6, ⟨rfl, rfl, rfl, rfl, trivial⟩, rfl, hq⟩
set_option maxHeartbeats 4000000 in
set_option maxRecDepth 100000 in
theorem lc_1107 {q1 q2 b L : Nat} {xs : Nat → Int32} {J : lW → Prop} (hp : pq_extensions q1 q2 J) : ∀ (y : Instr × Nat) (suf : ck_cd) (i : Int32) (w : lW), J w → wl oL (T_lw b L xs) Sp_lw P_lw K_law (H_lw q1 q2 b J) 189 ((252, y) :: suf) 1107 [(3, false, .int i), (2, false, .ref q2), (1, false, .ref q1), (0, false, .ref b)] [] w := by
  intro y suf i w hJ
  refine ⟨rfl, ?_⟩
  intro rv1 w1 h1
  obtain ⟨x1, rfl⟩ : ∃ x : Int32, rv1 = some (.int x) := h1.2.2.2.2.2
  refine ⟨rfl, ?_⟩
  intro rv2 w2 h2
  obtain ⟨x2, rfl⟩ : ∃ x : Int32, rv2 = some (.int x) := h2.2.2.2.2.2
  have hq := hp w w1 w2 _ _ _ hJ h1 h2
  exact ⟨i + 6, ⟨rfl, rfl, rfl, rfl, trivial⟩, rfl, hq⟩
set_option maxHeartbeats 4000000 in
set_option maxRecDepth 100000 in
theorem lc_1130 {q1 q2 b L : Nat} {xs : Nat → Int32} {J : lW → Prop} (hp : pq_extension q1 q2 J) : ∀ (y : Instr × Nat) (suf : ck_cd) (i : Int32) (w : lW), J w → wl oL (T_lw b L xs) Sp_lw P_lw K_law (H_lw q1 q2 b J) 189 ((252, y) :: suf) 1130 [(3, false, .int i), (2, false, .ref q2), (1, false, .ref q1), (0, false, .ref b)] [] w := by
  intro y suf i w hJ
  refine ⟨rfl, ?_⟩
  refine ⟨rfl, ?_⟩
  intro rv1 w1 h1
  obtain ⟨x1, rfl⟩ : ∃ x : Int32, rv1 = some (.int x) := h1.2.2.2.2.2
  refine ⟨rfl, ?_⟩
  refine ⟨rfl, ?_⟩
  intro rv2 w2 h2
  obtain ⟨x2, rfl⟩ : ∃ x : Int32, rv2 = some (.int x) := h2.2.2.2.2.2
  have hq := hp w w1 w2 _ _ _ _ hJ h1 h2
  exact ⟨i + 6, ⟨rfl, rfl, rfl, rfl, trivial⟩, rfl, hq⟩
set_option maxHeartbeats 4000000 in
set_option maxRecDepth 100000 in
theorem lc_1163 {q1 q2 b L : Nat} {xs : Nat → Int32} {J : lW → Prop} (hp : pq_concluded q1 q2 J) : ∀ (y : Instr × Nat) (suf : ck_cd) (i : Int32) (w : lW), J w → wl oL (T_lw b L xs) Sp_lw P_lw K_law (H_lw q1 q2 b J) 189 ((252, y) :: suf) 1163 [(3, false, .int i), (2, false, .ref q2), (1, false, .ref q1), (0, false, .ref b)] [] w := by
  intro y suf i w hJ
  refine ⟨rfl, ?_⟩
  refine ⟨rfl, ?_⟩
  intro rv1 w1 h1
  obtain ⟨x1, rfl⟩ : ∃ x : Int32, rv1 = some (.int x) := h1.2.2.2.2.2
  refine ⟨rfl, ?_⟩
  refine ⟨rfl, ?_⟩
  intro rv2 w2 h2
  obtain ⟨x2, rfl⟩ : ∃ x : Int32, rv2 = some (.int x) := h2.2.2.2.2.2
  have hq := hp w w1 w2 _ _ _ _ hJ h1 h2
  exact ⟨i + 6, ⟨rfl, rfl, rfl, rfl, trivial⟩, rfl, hq⟩
set_option maxHeartbeats 4000000 in
set_option maxRecDepth 100000 in
theorem lc_1196 {q1 q2 b L : Nat} {xs : Nat → Int32} {J : lW → Prop} (hp : pq_claim q1 q2 J) : ∀ (y : Instr × Nat) (suf : ck_cd) (i : Int32) (w : lW), J w → wl oL (T_lw b L xs) Sp_lw P_lw K_law (H_lw q1 q2 b J) 189 ((252, y) :: suf) 1196 [(3, false, .int i), (2, false, .ref q2), (1, false, .ref q1), (0, false, .ref b)] [] w := by
  intro y suf i w hJ
  refine ⟨rfl, ?_⟩
  refine ⟨rfl, ?_⟩
  intro rv1 w1 h1
  obtain ⟨x1, rfl⟩ : ∃ x : Int32, rv1 = some (.int x) := h1.2.2.2.2.2
  refine ⟨rfl, ?_⟩
  refine ⟨rfl, ?_⟩
  intro rv2 w2 h2
  obtain ⟨x2, rfl⟩ : ∃ x : Int32, rv2 = some (.int x) := h2.2.2.2.2.2
  have hq := hp w w1 w2 _ _ _ _ hJ h1 h2
  exact ⟨i + 6, ⟨rfl, rfl, rfl, rfl, trivial⟩, rfl, hq⟩
set_option maxHeartbeats 4000000 in
set_option maxRecDepth 100000 in
theorem lc_1229 {q1 q2 b L : Nat} {xs : Nat → Int32} {J : lW → Prop} (hp : pq_strikes q1 q2 J) : ∀ (y : Instr × Nat) (suf : ck_cd) (i : Int32) (w : lW), J w → wl oL (T_lw b L xs) Sp_lw P_lw K_law (H_lw q1 q2 b J) 189 ((252, y) :: suf) 1229 [(3, false, .int i), (2, false, .ref q2), (1, false, .ref q1), (0, false, .ref b)] [] w := by
  intro y suf i w hJ
  refine ⟨rfl, ?_⟩
  refine ⟨rfl, ?_⟩
  intro rv1 w1 h1
  obtain ⟨x1, rfl⟩ : ∃ x : Int32, rv1 = some (.int x) := h1.2.2.2.2.2
  refine ⟨rfl, ?_⟩
  refine ⟨rfl, ?_⟩
  intro rv2 w2 h2
  obtain ⟨x2, rfl⟩ : ∃ x : Int32, rv2 = some (.int x) := h2.2.2.2.2.2
  have hq := hp w w1 w2 _ _ _ _ hJ h1 h2
  exact ⟨i + 6, ⟨rfl, rfl, rfl, rfl, trivial⟩, rfl, hq⟩
set_option maxHeartbeats 4000000 in
set_option maxRecDepth 100000 in
theorem lc_1262 {q1 q2 b L : Nat} {xs : Nat → Int32} {J : lW → Prop} (hp : pq_claimed q1 q2 J) : ∀ (y : Instr × Nat) (suf : ck_cd) (i : Int32) (w : lW), J w → wl oL (T_lw b L xs) Sp_lw P_lw K_law (H_lw q1 q2 b J) 189 ((252, y) :: suf) 1262 [(3, false, .int i), (2, false, .ref q2), (1, false, .ref q1), (0, false, .ref b)] [] w := by
  intro y suf i w hJ
  refine ⟨rfl, ?_⟩
  refine ⟨rfl, ?_⟩
  intro rv1 w1 h1
  obtain ⟨x1, rfl⟩ : ∃ x : Int32, rv1 = some (.int x) := h1.2.2.2.2.2
  refine ⟨rfl, ?_⟩
  refine ⟨rfl, ?_⟩
  intro rv2 w2 h2
  obtain ⟨x2, rfl⟩ : ∃ x : Int32, rv2 = some (.int x) := h2.2.2.2.2.2
  have hq := hp w w1 w2 _ _ _ _ hJ h1 h2
  exact ⟨i + 6, ⟨rfl, rfl, rfl, rfl, trivial⟩, rfl, hq⟩
set_option maxHeartbeats 4000000 in
set_option maxRecDepth 100000 in
theorem lc_1295 {q1 q2 b L : Nat} {xs : Nat → Int32} {J : lW → Prop} (hp : pq_sets q1 q2 J) : ∀ (y : Instr × Nat) (suf : ck_cd) (i : Int32) (w : lW), J w → wl oL (T_lw b L xs) Sp_lw P_lw K_law (H_lw q1 q2 b J) 189 ((252, y) :: suf) 1295 [(3, false, .int i), (2, false, .ref q2), (1, false, .ref q1), (0, false, .ref b)] [] w := by
  intro y suf i w hJ
  refine ⟨rfl, ?_⟩
  intro rv1 w1 h1
  obtain ⟨x1, rfl⟩ : ∃ x : Int32, rv1 = some (.int x) := h1.2.2.2.2.2
  refine ⟨rfl, ?_⟩
  intro rv2 w2 h2
  obtain ⟨x2, rfl⟩ : ∃ x : Int32, rv2 = some (.int x) := h2.2.2.2.2.2
  have hq := hp w w1 w2 _ _ _ hJ h1 h2
  exact ⟨i + 6, ⟨rfl, rfl, rfl, rfl, trivial⟩, rfl, hq⟩
set_option maxHeartbeats 4000000 in
set_option maxRecDepth 100000 in
theorem lc_1318 {q1 q2 b L : Nat} {xs : Nat → Int32} {J : lW → Prop} (hp : pq_setOf q1 q2 J) : ∀ (y : Instr × Nat) (suf : ck_cd) (i : Int32) (w : lW), J w → wl oL (T_lw b L xs) Sp_lw P_lw K_law (H_lw q1 q2 b J) 189 ((252, y) :: suf) 1318 [(3, false, .int i), (2, false, .ref q2), (1, false, .ref q1), (0, false, .ref b)] [] w := by
  intro y suf i w hJ
  refine ⟨rfl, ?_⟩
  refine ⟨rfl, ?_⟩
  intro rv1 w1 h1
  obtain ⟨x1, rfl⟩ : ∃ x : Int32, rv1 = some (.int x) := h1.2.2.2.2.2
  refine ⟨rfl, ?_⟩
  refine ⟨rfl, ?_⟩
  intro rv2 w2 h2
  obtain ⟨x2, rfl⟩ : ∃ x : Int32, rv2 = some (.int x) := h2.2.2.2.2.2
  have hq := hp w w1 w2 _ _ _ _ hJ h1 h2
  exact ⟨i + 6, ⟨rfl, rfl, rfl, rfl, trivial⟩, rfl, hq⟩
set_option maxHeartbeats 4000000 in
set_option maxRecDepth 100000 in
theorem lc_1351 {q1 q2 b L : Nat} {xs : Nat → Int32} {J : lW → Prop} (hp : pq_parts q1 q2 J) : ∀ (y : Instr × Nat) (suf : ck_cd) (i : Int32) (w : lW), J w → wl oL (T_lw b L xs) Sp_lw P_lw K_law (H_lw q1 q2 b J) 189 ((252, y) :: suf) 1351 [(3, false, .int i), (2, false, .ref q2), (1, false, .ref q1), (0, false, .ref b)] [] w := by
  intro y suf i w hJ
  intro rv1 w1 h1
  obtain ⟨x1, rfl⟩ : ∃ x : Int32, rv1 = some (.int x) := h1.2.2.2.2.2
  intro rv2 w2 h2
  obtain ⟨x2, rfl⟩ : ∃ x : Int32, rv2 = some (.int x) := h2.2.2.2.2.2
  have hq := hp w w1 w2 _ _  hJ h1 h2
  exact ⟨i + 6, ⟨rfl, rfl, rfl, rfl, trivial⟩, rfl, hq⟩
set_option maxHeartbeats 4000000 in
set_option maxRecDepth 100000 in
theorem lc_1364 {q1 q2 b L : Nat} {xs : Nat → Int32} {J : lW → Prop} (hp : pq_far q1 q2 J) : ∀ (y : Instr × Nat) (suf : ck_cd) (i : Int32) (w : lW), J w → wl oL (T_lw b L xs) Sp_lw P_lw K_law (H_lw q1 q2 b J) 189 ((252, y) :: suf) 1364 [(3, false, .int i), (2, false, .ref q2), (1, false, .ref q1), (0, false, .ref b)] [] w := by
  intro y suf i w hJ
  refine ⟨rfl, ?_⟩
  refine ⟨rfl, ?_⟩
  intro rv1 w1 h1
  obtain ⟨x1, rfl⟩ : ∃ x : Int32, rv1 = some (.int x) := h1.2.2.2.2.2
  refine ⟨rfl, ?_⟩
  refine ⟨rfl, ?_⟩
  intro rv2 w2 h2
  obtain ⟨x2, rfl⟩ : ∃ x : Int32, rv2 = some (.int x) := h2.2.2.2.2.2
  have hq := hp w w1 w2 _ _ _ _ hJ h1 h2
  exact ⟨i + 6, ⟨rfl, rfl, rfl, rfl, trivial⟩, rfl, hq⟩
set_option maxHeartbeats 4000000 in
set_option maxRecDepth 100000 in
theorem lc_1397 {q1 q2 b L : Nat} {xs : Nat → Int32} {J : lW → Prop} (hp : pq_merged q1 q2 J) : ∀ (y : Instr × Nat) (suf : ck_cd) (i : Int32) (w : lW), J w → wl oL (T_lw b L xs) Sp_lw P_lw K_law (H_lw q1 q2 b J) 189 ((252, y) :: suf) 1397 [(3, false, .int i), (2, false, .ref q2), (1, false, .ref q1), (0, false, .ref b)] [] w := by
  intro y suf i w hJ
  refine ⟨rfl, ?_⟩
  intro rv1 w1 h1
  obtain ⟨x1, rfl⟩ : ∃ x : Int32, rv1 = some (.int x) := h1.2.2.2.2.2
  refine ⟨rfl, ?_⟩
  intro rv2 w2 h2
  obtain ⟨x2, rfl⟩ : ∃ x : Int32, rv2 = some (.int x) := h2.2.2.2.2.2
  have hq := hp w w1 w2 _ _ _ hJ h1 h2
  exact ⟨i + 6, ⟨rfl, rfl, rfl, rfl, trivial⟩, rfl, hq⟩
set_option maxHeartbeats 4000000 in
set_option maxRecDepth 100000 in
theorem lc_1420 {q1 q2 b L : Nat} {xs : Nat → Int32} {J : lW → Prop} (hp : pq_mergedWorld q1 q2 J) : ∀ (y : Instr × Nat) (suf : ck_cd) (i : Int32) (w : lW), J w → wl oL (T_lw b L xs) Sp_lw P_lw K_law (H_lw q1 q2 b J) 189 ((252, y) :: suf) 1420 [(3, false, .int i), (2, false, .ref q2), (1, false, .ref q1), (0, false, .ref b)] [] w := by
  intro y suf i w hJ
  refine ⟨rfl, ?_⟩
  refine ⟨rfl, ?_⟩
  intro rv1 w1 h1
  obtain ⟨x1, rfl⟩ : ∃ x : Int32, rv1 = some (.int x) := h1.2.2.2.2.2
  refine ⟨rfl, ?_⟩
  refine ⟨rfl, ?_⟩
  intro rv2 w2 h2
  obtain ⟨x2, rfl⟩ : ∃ x : Int32, rv2 = some (.int x) := h2.2.2.2.2.2
  have hq := hp w w1 w2 _ _ _ _ hJ h1 h2
  exact ⟨i + 6, ⟨rfl, rfl, rfl, rfl, trivial⟩, rfl, hq⟩
set_option maxHeartbeats 4000000 in
set_option maxRecDepth 100000 in
theorem lc_1453 {q1 q2 b L : Nat} {xs : Nat → Int32} {J : lW → Prop} (hp : pq_agreed q1 q2 J) : ∀ (y : Instr × Nat) (suf : ck_cd) (i : Int32) (w : lW), J w → wl oL (T_lw b L xs) Sp_lw P_lw K_law (H_lw q1 q2 b J) 189 ((252, y) :: suf) 1453 [(3, false, .int i), (2, false, .ref q2), (1, false, .ref q1), (0, false, .ref b)] [] w := by
  intro y suf i w hJ
  refine ⟨rfl, ?_⟩
  refine ⟨rfl, ?_⟩
  intro rv1 w1 h1
  obtain ⟨x1, rfl⟩ : ∃ x : Int32, rv1 = some (.int x) := h1.2.2.2.2.2
  refine ⟨rfl, ?_⟩
  refine ⟨rfl, ?_⟩
  intro rv2 w2 h2
  obtain ⟨x2, rfl⟩ : ∃ x : Int32, rv2 = some (.int x) := h2.2.2.2.2.2
  have hq := hp w w1 w2 _ _ _ _ hJ h1 h2
  exact ⟨i + 6, ⟨rfl, rfl, rfl, rfl, trivial⟩, rfl, hq⟩
set_option maxHeartbeats 4000000 in
set_option maxRecDepth 100000 in
theorem lc_1486 {q1 q2 b L : Nat} {xs : Nat → Int32} {J : lW → Prop} (hp : pq_take q1 q2 J) : ∀ (y : Instr × Nat) (suf : ck_cd) (i : Int32) (w : lW), J w → wl oL (T_lw b L xs) Sp_lw P_lw K_law (H_lw q1 q2 b J) 189 ((252, y) :: suf) 1486 [(3, false, .int i), (2, false, .ref q2), (1, false, .ref q1), (0, false, .ref b)] [] w := by
  intro y suf i w hJ
  refine ⟨rfl, ?_⟩
  refine ⟨rfl, ?_⟩
  refine ⟨rfl, ?_⟩
  intro rv1 w1 h1
  obtain ⟨x1, rfl⟩ : ∃ x : Int32, rv1 = some (.int x) := h1.2.2.2.2.2
  refine ⟨rfl, ?_⟩
  refine ⟨rfl, ?_⟩
  refine ⟨rfl, ?_⟩
  intro rv2 w2 h2
  obtain ⟨x2, rfl⟩ : ∃ x : Int32, rv2 = some (.int x) := h2.2.2.2.2.2
  have hq := hp w w1 w2 _ _ _ _ _ hJ h1 h2
  exact ⟨i + 6, ⟨rfl, rfl, rfl, rfl, trivial⟩, rfl, hq⟩
set_option maxHeartbeats 4000000 in
set_option maxRecDepth 100000 in
theorem lc_1529 {q1 q2 b L : Nat} {xs : Nat → Int32} {J : lW → Prop} (hp : pq_loose q1 q2 J) : ∀ (y : Instr × Nat) (suf : ck_cd) (i : Int32) (w : lW), J w → wl oL (T_lw b L xs) Sp_lw P_lw K_law (H_lw q1 q2 b J) 189 ((252, y) :: suf) 1529 [(3, false, .int i), (2, false, .ref q2), (1, false, .ref q1), (0, false, .ref b)] [] w := by
  intro y suf i w hJ
  refine ⟨rfl, ?_⟩
  intro rv1 w1 h1
  obtain ⟨x1, rfl⟩ : ∃ x : Int32, rv1 = some (.int x) := h1.2.2.2.2.2
  refine ⟨rfl, ?_⟩
  intro rv2 w2 h2
  obtain ⟨x2, rfl⟩ : ∃ x : Int32, rv2 = some (.int x) := h2.2.2.2.2.2
  have hq := hp w w1 w2 _ _ _ hJ h1 h2
  exact ⟨i + 6, ⟨rfl, rfl, rfl, rfl, trivial⟩, rfl, hq⟩
set_option maxHeartbeats 4000000 in
set_option maxRecDepth 100000 in
theorem lc_1552 {q1 q2 b L : Nat} {xs : Nat → Int32} {J : lW → Prop} (hp : pq_as q1 q2 J) : ∀ (y : Instr × Nat) (suf : ck_cd) (i : Int32) (w : lW), J w → wl oL (T_lw b L xs) Sp_lw P_lw K_law (H_lw q1 q2 b J) 189 ((252, y) :: suf) 1552 [(3, false, .int i), (2, false, .ref q2), (1, false, .ref q1), (0, false, .ref b)] [] w := by
  intro y suf i w hJ
  refine ⟨rfl, ?_⟩
  refine ⟨rfl, ?_⟩
  intro rv1 w1 h1
  obtain ⟨x1, rfl⟩ : ∃ x : Int32, rv1 = some (.int x) := h1.2.2.2.2.2
  refine ⟨rfl, ?_⟩
  refine ⟨rfl, ?_⟩
  intro rv2 w2 h2
  obtain ⟨x2, rfl⟩ : ∃ x : Int32, rv2 = some (.int x) := h2.2.2.2.2.2
  have hq := hp w w1 w2 _ _ _ _ hJ h1 h2
  obtain ⟨e, hJ2⟩ := hq
  have e : x1 = x2 := by injection e with e; injection e
  subst e
  refine ⟨fun hc => ?_, fun hc => ?_⟩
  · exact ⟨i + 6, ⟨rfl, rfl, rfl, rfl, trivial⟩, rfl, hJ2⟩
  · exact absurd rfl hc
set_option maxHeartbeats 4000000 in
set_option maxRecDepth 100000 in
theorem lc_1585 {q1 q2 b L : Nat} {xs : Nat → Int32} {J : lW → Prop} (hp : pq_tell q1 q2 J) : ∀ (y : Instr × Nat) (suf : ck_cd) (i : Int32) (w : lW), J w → wl oL (T_lw b L xs) Sp_lw P_lw K_law (H_lw q1 q2 b J) 189 ((252, y) :: suf) 1585 [(3, false, .int i), (2, false, .ref q2), (1, false, .ref q1), (0, false, .ref b)] [] w := by
  intro y suf i w hJ
  refine ⟨rfl, ?_⟩
  intro rv1 w1 h1
  obtain ⟨x1, rfl⟩ : ∃ x : Int32, rv1 = some (.int x) := h1.2.2.2.2.2
  refine ⟨rfl, ?_⟩
  intro rv2 w2 h2
  obtain ⟨x2, rfl⟩ : ∃ x : Int32, rv2 = some (.int x) := h2.2.2.2.2.2
  have hq := hp w w1 w2 _ _ _ hJ h1 h2
  exact ⟨i + 6, ⟨rfl, rfl, rfl, rfl, trivial⟩, rfl, hq⟩
set_option maxHeartbeats 4000000 in
set_option maxRecDepth 100000 in
theorem lc_1608 {q1 q2 b L : Nat} {xs : Nat → Int32} {J : lW → Prop} (hp : pq_show q1 q2 J) : ∀ (y : Instr × Nat) (suf : ck_cd) (i : Int32) (w : lW), J w → wl oL (T_lw b L xs) Sp_lw P_lw K_law (H_lw q1 q2 b J) 189 ((252, y) :: suf) 1608 [(3, false, .int i), (2, false, .ref q2), (1, false, .ref q1), (0, false, .ref b)] [] w := by
  intro y suf i w hJ
  refine ⟨rfl, ?_⟩
  intro rv1 w1 h1
  obtain ⟨x1, rfl⟩ : ∃ x : Int32, rv1 = some (.int x) := h1.2.2.2.2.2
  refine ⟨rfl, ?_⟩
  intro rv2 w2 h2
  obtain ⟨x2, rfl⟩ : ∃ x : Int32, rv2 = some (.int x) := h2.2.2.2.2.2
  have hq := hp w w1 w2 _ _ _ hJ h1 h2
  exact ⟨i + 6, ⟨rfl, rfl, rfl, rfl, trivial⟩, rfl, hq⟩
set_option maxHeartbeats 4000000 in
set_option maxRecDepth 100000 in
theorem lc_1631 {q1 q2 b L : Nat} {xs : Nat → Int32} {J : lW → Prop} (hp : pq_sheet q1 q2 J) : ∀ (y : Instr × Nat) (suf : ck_cd) (i : Int32) (w : lW), J w → wl oL (T_lw b L xs) Sp_lw P_lw K_law (H_lw q1 q2 b J) 189 ((252, y) :: suf) 1631 [(3, false, .int i), (2, false, .ref q2), (1, false, .ref q1), (0, false, .ref b)] [] w := by
  intro y suf i w hJ
  refine ⟨rfl, ?_⟩
  refine ⟨rfl, ?_⟩
  refine ⟨rfl, ?_⟩
  intro rv1 w1 h1
  obtain ⟨x1, rfl⟩ : ∃ x : Int32, rv1 = some (.int x) := h1.2.2.2.2.2
  refine ⟨rfl, ?_⟩
  refine ⟨rfl, ?_⟩
  refine ⟨rfl, ?_⟩
  intro rv2 w2 h2
  obtain ⟨x2, rfl⟩ : ∃ x : Int32, rv2 = some (.int x) := h2.2.2.2.2.2
  have hq := hp w w1 w2 _ _ _ _ _ hJ h1 h2
  exact ⟨i + 6, ⟨rfl, rfl, rfl, rfl, trivial⟩, rfl, hq⟩
set_option maxHeartbeats 4000000 in
set_option maxRecDepth 100000 in
theorem lc_1674 {q1 q2 b L : Nat} {xs : Nat → Int32} {J : lW → Prop} (hp : pq_lose q1 q2 J) : ∀ (y : Instr × Nat) (suf : ck_cd) (i : Int32) (w : lW), J w → wl oL (T_lw b L xs) Sp_lw P_lw K_law (H_lw q1 q2 b J) 189 ((252, y) :: suf) 1674 [(3, false, .int i), (2, false, .ref q2), (1, false, .ref q1), (0, false, .ref b)] [] w := by
  intro y suf i w hJ
  refine ⟨rfl, ?_⟩
  intro rv1 w1 h1
  obtain ⟨x1, rfl⟩ : ∃ x : Int32, rv1 = some (.int x) := h1.2.2.2.2.2
  refine ⟨rfl, ?_⟩
  intro rv2 w2 h2
  obtain ⟨x2, rfl⟩ : ∃ x : Int32, rv2 = some (.int x) := h2.2.2.2.2.2
  have hq := hp w w1 w2 _ _ _ hJ h1 h2
  exact ⟨i + 6, ⟨rfl, rfl, rfl, rfl, trivial⟩, rfl, hq⟩
set_option maxHeartbeats 4000000 in
set_option maxRecDepth 100000 in
theorem lc_1697 {q1 q2 b L : Nat} {xs : Nat → Int32} {J : lW → Prop} (hp : pq_put q1 q2 J) : ∀ (y : Instr × Nat) (suf : ck_cd) (i : Int32) (w : lW), J w → wl oL (T_lw b L xs) Sp_lw P_lw K_law (H_lw q1 q2 b J) 189 ((252, y) :: suf) 1697 [(3, false, .int i), (2, false, .ref q2), (1, false, .ref q1), (0, false, .ref b)] [] w := by
  intro y suf i w hJ
  refine ⟨rfl, ?_⟩
  refine ⟨rfl, ?_⟩
  refine ⟨rfl, ?_⟩
  intro rv1 w1 h1
  obtain ⟨x1, rfl⟩ : ∃ x : Int32, rv1 = some (.int x) := h1.2.2.2.2.2
  refine ⟨rfl, ?_⟩
  refine ⟨rfl, ?_⟩
  refine ⟨rfl, ?_⟩
  intro rv2 w2 h2
  obtain ⟨x2, rfl⟩ : ∃ x : Int32, rv2 = some (.int x) := h2.2.2.2.2.2
  have hq := hp w w1 w2 _ _ _ _ _ hJ h1 h2
  exact ⟨i + 6, ⟨rfl, rfl, rfl, rfl, trivial⟩, rfl, hq⟩
set_option maxHeartbeats 4000000 in
set_option maxRecDepth 100000 in
theorem lc_1740 {q1 q2 b L : Nat} {xs : Nat → Int32} {J : lW → Prop} (hp : pq_cell q1 q2 J) : ∀ (y : Instr × Nat) (suf : ck_cd) (i : Int32) (w : lW), J w → wl oL (T_lw b L xs) Sp_lw P_lw K_law (H_lw q1 q2 b J) 189 ((252, y) :: suf) 1740 [(3, false, .int i), (2, false, .ref q2), (1, false, .ref q1), (0, false, .ref b)] [] w := by
  intro y suf i w hJ
  refine ⟨rfl, ?_⟩
  refine ⟨rfl, ?_⟩
  refine ⟨rfl, ?_⟩
  intro rv1 w1 h1
  obtain ⟨x1, rfl⟩ : ∃ x : Int64, rv1 = some (.long x) := h1.2.2.2.2.2
  refine ⟨rfl, ?_⟩
  refine ⟨rfl, ?_⟩
  refine ⟨rfl, ?_⟩
  intro rv2 w2 h2
  obtain ⟨x2, rfl⟩ : ∃ x : Int64, rv2 = some (.long x) := h2.2.2.2.2.2
  have hq := hp w w1 w2 _ _ _ _ _ hJ h1 h2
  exact ⟨i + 6, ⟨rfl, rfl, rfl, rfl, trivial⟩, rfl, hq⟩
set_option maxHeartbeats 4000000 in
set_option maxRecDepth 100000 in
theorem lc_1783 {q1 q2 b L : Nat} {xs : Nat → Int32} {J : lW → Prop} (hp : pq_copy q1 q2 J) : ∀ (y : Instr × Nat) (suf : ck_cd) (i : Int32) (w : lW), J w → wl oL (T_lw b L xs) Sp_lw P_lw K_law (H_lw q1 q2 b J) 189 ((252, y) :: suf) 1783 [(3, false, .int i), (2, false, .ref q2), (1, false, .ref q1), (0, false, .ref b)] [] w := by
  intro y suf i w hJ
  refine ⟨rfl, ?_⟩
  refine ⟨rfl, ?_⟩
  refine ⟨rfl, ?_⟩
  refine ⟨rfl, ?_⟩
  refine ⟨rfl, ?_⟩
  intro rv1 w1 h1
  obtain ⟨x1, rfl⟩ : ∃ x : Int32, rv1 = some (.int x) := h1.2.2.2.2.2
  refine ⟨rfl, ?_⟩
  refine ⟨rfl, ?_⟩
  refine ⟨rfl, ?_⟩
  refine ⟨rfl, ?_⟩
  refine ⟨rfl, ?_⟩
  intro rv2 w2 h2
  obtain ⟨x2, rfl⟩ : ∃ x : Int32, rv2 = some (.int x) := h2.2.2.2.2.2
  have hq := hp w w1 w2 _ _ _ _ _ _ _ hJ h1 h2
  exact ⟨i + 6, ⟨rfl, rfl, rfl, rfl, trivial⟩, rfl, hq⟩
set_option maxHeartbeats 4000000 in
set_option maxRecDepth 100000 in
theorem lc_1846 {q1 q2 b L : Nat} {xs : Nat → Int32} {J : lW → Prop} (hp : pq_trace q1 q2 J) : ∀ (y : Instr × Nat) (suf : ck_cd) (i : Int32) (w : lW), J w → wl oL (T_lw b L xs) Sp_lw P_lw K_law (H_lw q1 q2 b J) 189 ((252, y) :: suf) 1846 [(3, false, .int i), (2, false, .ref q2), (1, false, .ref q1), (0, false, .ref b)] [] w := by
  intro y suf i w hJ
  intro rv1 w1 h1
  obtain ⟨x1, rfl⟩ : ∃ x : Int32, rv1 = some (.int x) := h1.2.2.2.2.2
  intro rv2 w2 h2
  obtain ⟨x2, rfl⟩ : ∃ x : Int32, rv2 = some (.int x) := h2.2.2.2.2.2
  have hq := hp w w1 w2 _ _  hJ h1 h2
  exact ⟨i + 6, ⟨rfl, rfl, rfl, rfl, trivial⟩, rfl, hq⟩
set_option maxHeartbeats 4000000 in
set_option maxRecDepth 100000 in
theorem lc_1859 {q1 q2 b L : Nat} {xs : Nat → Int32} {J : lW → Prop} (hp : pq_fault q1 q2 J) : ∀ (y : Instr × Nat) (suf : ck_cd) (i : Int32) (w : lW), J w → wl oL (T_lw b L xs) Sp_lw P_lw K_law (H_lw q1 q2 b J) 189 ((252, y) :: suf) 1859 [(3, false, .int i), (2, false, .ref q2), (1, false, .ref q1), (0, false, .ref b)] [] w := by
  intro y suf i w hJ
  intro rv1 w1 h1
  obtain ⟨x1, rfl⟩ : ∃ x : Int32, rv1 = some (.int x) := h1.2.2.2.2.2
  intro rv2 w2 h2
  obtain ⟨x2, rfl⟩ : ∃ x : Int32, rv2 = some (.int x) := h2.2.2.2.2.2
  have hq := hp w w1 w2 _ _  hJ h1 h2
  exact ⟨i + 6, ⟨rfl, rfl, rfl, rfl, trivial⟩, rfl, hq⟩
set_option maxHeartbeats 4000000 in
set_option maxRecDepth 100000 in
theorem lc_1872 {q1 q2 b L : Nat} {xs : Nat → Int32} {J : lW → Prop} (hp : pq_many q1 q2 J) : ∀ (y : Instr × Nat) (suf : ck_cd) (i : Int32) (w : lW), J w → wl oL (T_lw b L xs) Sp_lw P_lw K_law (H_lw q1 q2 b J) 189 ((252, y) :: suf) 1872 [(3, false, .int i), (2, false, .ref q2), (1, false, .ref q1), (0, false, .ref b)] [] w := by
  intro y suf i w hJ
  refine ⟨rfl, ?_⟩
  intro rv1 w1 h1
  obtain ⟨x1, rfl⟩ : ∃ x : Int32, rv1 = some (.int x) := h1.2.2.2.2.2
  refine ⟨rfl, ?_⟩
  intro rv2 w2 h2
  obtain ⟨x2, rfl⟩ : ∃ x : Int32, rv2 = some (.int x) := h2.2.2.2.2.2
  have hq := hp w w1 w2 _ _ _ hJ h1 h2
  exact ⟨i + 6, ⟨rfl, rfl, rfl, rfl, trivial⟩, rfl, hq⟩
set_option maxHeartbeats 4000000 in
set_option maxRecDepth 100000 in
theorem lc_18 {q1 q2 b L : Nat} {xs : Nat → Int32} {J : lW → Prop} (h_read : pq_read q1 q2 J) (h_make : pq_make q1 q2 J) (h_worlds : pq_worlds q1 q2 J) (h_truth : pq_truth q1 q2 J) (h_compare : pq_compare q1 q2 J) (h_trust : pq_trust q1 q2 J) (h_hold : pq_hold q1 q2 J) (h_view : pq_view q1 q2 J) (h_entry : pq_entry q1 q2 J) (h_drop : pq_drop q1 q2 J) (h_weight : pq_weight q1 q2 J) (h_together : pq_together q1 q2 J) (h_reasons : pq_reasons q1 q2 J) (h_reason : pq_reason q1 q2 J) (h_harmonies : pq_harmonies q1 q2 J) (h_harmony : pq_harmony q1 q2 J) (h_held : pq_held q1 q2 J) (h_cuts : pq_cuts q1 q2 J) (h_cutOf : pq_cutOf q1 q2 J) (h_least : pq_least q1 q2 J) (h_giveUp : pq_giveUp q1 q2 J) (h_news : pq_news q1 q2 J) (h_postulate : pq_postulate q1 q2 J) (h_rule : pq_rule q1 q2 J) (h_ruled : pq_ruled q1 q2 J) (h_extensions : pq_extensions q1 q2 J) (h_extension : pq_extension q1 q2 J) (h_concluded : pq_concluded q1 q2 J) (h_claim : pq_claim q1 q2 J) (h_strikes : pq_strikes q1 q2 J) (h_claimed : pq_claimed q1 q2 J) (h_sets : pq_sets q1 q2 J) (h_setOf : pq_setOf q1 q2 J) (h_parts : pq_parts q1 q2 J) (h_far : pq_far q1 q2 J) (h_merged : pq_merged q1 q2 J) (h_mergedWorld : pq_mergedWorld q1 q2 J) (h_agreed : pq_agreed q1 q2 J) (h_take : pq_take q1 q2 J) (h_loose : pq_loose q1 q2 J) (h_as : pq_as q1 q2 J) (h_tell : pq_tell q1 q2 J) (h_show : pq_show q1 q2 J) (h_sheet : pq_sheet q1 q2 J) (h_lose : pq_lose q1 q2 J) (h_put : pq_put q1 q2 J) (h_cell : pq_cell q1 q2 J) (h_copy : pq_copy q1 q2 J) (h_trace : pq_trace q1 q2 J) (h_fault : pq_fault q1 q2 J) (h_many : pq_many q1 q2 J) : ∀ (lg : fL_) (vs : List Value) (w : lW), I_lw q1 q2 b J lg vs w → ∃ (l : fL_) (f : Nat), f_sub l lg ∧ wh oL (T_lw b L xs) Sp_lw P_lw K_law (H_lw q1 q2 b J) f 18 l vs w := by
  rintro lg vs w ⟨i, hs, rfl, hJ⟩
  refine ⟨_, 200, hs, ?_⟩
  have hI : I_lw q1 q2 b J [(3, false, .int i), (2, false, .ref q2), (1, false, .ref q1), (0, false, .ref b)] [] w := ⟨i, ⟨rfl, rfl, rfl, rfl, trivial⟩, rfl, hJ⟩
  refine ⟨rfl, fun hc => rfl, fun hc => ⟨rfl, fun hd => ⟨i + 6, ⟨rfl, rfl, rfl, rfl, trivial⟩, rfl, hJ⟩, fun h1 h2 => wT_all ?_⟩⟩
  exact (List.forall_mem_cons.mpr ⟨hI, (List.forall_mem_cons.mpr ⟨lc_305 h_make _ _ i w hJ, (List.forall_mem_cons.mpr ⟨lc_348 h_worlds _ _ i w hJ, (List.forall_mem_cons.mpr ⟨lc_371 h_truth _ _ i w hJ, (List.forall_mem_cons.mpr ⟨lc_404 h_compare _ _ i w hJ, (List.forall_mem_cons.mpr ⟨lc_437 h_trust _ _ i w hJ, (List.forall_mem_cons.mpr ⟨lc_470 h_hold _ _ i w hJ, (List.forall_mem_cons.mpr ⟨lc_533 h_view _ _ i w hJ, (List.forall_mem_cons.mpr ⟨lc_566 h_entry _ _ i w hJ, (List.forall_mem_cons.mpr ⟨lc_599 h_drop _ _ i w hJ, (List.forall_mem_cons.mpr ⟨lc_632 h_weight _ _ i w hJ, (List.forall_mem_cons.mpr ⟨lc_655 h_together _ _ i w hJ, (List.forall_mem_cons.mpr ⟨lc_678 h_reasons _ _ i w hJ, (List.forall_mem_cons.mpr ⟨lc_711 h_reason _ _ i w hJ, (List.forall_mem_cons.mpr ⟨lc_754 h_harmonies _ _ i w hJ, (List.forall_mem_cons.mpr ⟨lc_777 h_harmony _ _ i w hJ, (List.forall_mem_cons.mpr ⟨lc_810 h_held _ _ i w hJ, (List.forall_mem_cons.mpr ⟨lc_843 h_cuts _ _ i w hJ, (List.forall_mem_cons.mpr ⟨lc_866 h_cutOf _ _ i w hJ, (List.forall_mem_cons.mpr ⟨lc_899 h_least _ _ i w hJ, (List.forall_mem_cons.mpr ⟨lc_922 h_giveUp _ _ i w hJ, (List.forall_mem_cons.mpr ⟨lc_945 h_news _ _ i w hJ, (List.forall_mem_cons.mpr ⟨lc_978 h_postulate _ _ i w hJ, (List.forall_mem_cons.mpr ⟨lc_1011 h_rule _ _ i w hJ, (List.forall_mem_cons.mpr ⟨lc_1074 h_ruled _ _ i w hJ, (List.forall_mem_cons.mpr ⟨lc_1107 h_extensions _ _ i w hJ, (List.forall_mem_cons.mpr ⟨lc_1130 h_extension _ _ i w hJ, (List.forall_mem_cons.mpr ⟨lc_1163 h_concluded _ _ i w hJ, (List.forall_mem_cons.mpr ⟨lc_1196 h_claim _ _ i w hJ, (List.forall_mem_cons.mpr ⟨lc_1229 h_strikes _ _ i w hJ, (List.forall_mem_cons.mpr ⟨lc_1262 h_claimed _ _ i w hJ, (List.forall_mem_cons.mpr ⟨lc_1295 h_sets _ _ i w hJ, (List.forall_mem_cons.mpr ⟨lc_1318 h_setOf _ _ i w hJ, (List.forall_mem_cons.mpr ⟨lc_1351 h_parts _ _ i w hJ, (List.forall_mem_cons.mpr ⟨lc_1364 h_far _ _ i w hJ, (List.forall_mem_cons.mpr ⟨lc_1397 h_merged _ _ i w hJ, (List.forall_mem_cons.mpr ⟨lc_1420 h_mergedWorld _ _ i w hJ, (List.forall_mem_cons.mpr ⟨lc_1453 h_agreed _ _ i w hJ, (List.forall_mem_cons.mpr ⟨lc_1486 h_take _ _ i w hJ, (List.forall_mem_cons.mpr ⟨lc_1529 h_loose _ _ i w hJ, (List.forall_mem_cons.mpr ⟨lc_1552 h_as _ _ i w hJ, (List.forall_mem_cons.mpr ⟨lc_1585 h_tell _ _ i w hJ, (List.forall_mem_cons.mpr ⟨lc_1608 h_show _ _ i w hJ, (List.forall_mem_cons.mpr ⟨lc_1631 h_sheet _ _ i w hJ, (List.forall_mem_cons.mpr ⟨lc_1674 h_lose _ _ i w hJ, (List.forall_mem_cons.mpr ⟨lc_1697 h_put _ _ i w hJ, (List.forall_mem_cons.mpr ⟨lc_1740 h_cell _ _ i w hJ, (List.forall_mem_cons.mpr ⟨lc_1783 h_copy _ _ i w hJ, (List.forall_mem_cons.mpr ⟨lc_1846 h_trace _ _ i w hJ, (List.forall_mem_cons.mpr ⟨lc_1859 h_fault _ _ i w hJ, (List.forall_mem_cons.mpr ⟨lc_1872 h_many _ _ i w hJ, (fun _ h => absurd h List.not_mem_nil)⟩)⟩)⟩)⟩)⟩)⟩)⟩)⟩)⟩)⟩)⟩)⟩)⟩)⟩)⟩)⟩)⟩)⟩)⟩)⟩)⟩)⟩)⟩)⟩)⟩)⟩)⟩)⟩)⟩)⟩)⟩)⟩)⟩)⟩)⟩)⟩)⟩)⟩)⟩)⟩)⟩)⟩)⟩)⟩)⟩)⟩)⟩)⟩)⟩)⟩)⟩)
