/-! the invariant at the loop's first head (J4: part 93zd) -/
theorem ini_iv {tys : List (ClassId × FieldType)} {ws : va_W} (hwo : mk_wo tys ws lp_L2) (hd : f_dj ws) {q x n : Nat} {vals : List mk_V} (hc : lp_L2[q]? = some (1, x, n, vals)) {i : Nat} {v : Int} (hv : vals[i]? = some (1, v, 0)) : (eI (hof ws (bs_B ws q)) i).toInt = v := by
  obtain ⟨a, e, hq, hco⟩ := hwo.get hc
  obtain ⟨cA, f, -, rfl, h2⟩ := hco
  rw [bs_Be hq, hof_at hd hq]
  have h3 := h2 i
  rw [mk_at_of (c := (1, x, n, vals)) hv] at h3
  obtain ⟨w, h4, h5⟩ := (show ∃ w : Int32, Value.int (f i) = .int w ∧ w.toInt = v from h3)
  injection h4 with h4
  show (f i).toInt = v
  rw [h4]
  exact h5
theorem J_ini48 {tys : List (ClassId × FieldType)} {ws : va_W} (hwo : mk_wo tys ws lp_L2) (hd : f_dj ws) : J48 (bs_B ws) (ws, lp_sh) := by
  refine ⟨hd, Bs.mk hwo, fun k hk => Or.inl ?_⟩
  rcases (show k = 0 ∨ k = 1 ∨ k = 2 ∨ k = 3 by omega) with rfl | rfl | rfl | rfl
  · rw [ini_iv hwo hd bl_340 (v := -1) rfl, ini_iv hwo hd bl_381 (v := -1) rfl]; decide
  · rw [ini_iv hwo hd bl_340 (v := -1) rfl, ini_iv hwo hd bl_381 (v := -1) rfl]; decide
  · rw [ini_iv hwo hd bl_340 (v := -1) rfl, ini_iv hwo hd bl_381 (v := -1) rfl]; decide
  · rw [ini_iv hwo hd bl_340 (v := -1) rfl, ini_iv hwo hd bl_381 (v := -1) rfl]; decide
theorem ini_oF {tys : List (ClassId × FieldType)} {ws : va_W} (hwo : mk_wo tys ws lp_L2) (hd : f_dj ws) {q ci n : Nat} {vals : List mk_V} (hc : lp_L2[q]? = some (0, ci, n, vals)) {k : Nat} {v : Int} (hv : vals[k]? = some (1, v, 0)) : ∃ x : Int32, x.toInt = v ∧ oF (bs_B ws) q ci k (.int x) (ws, lp_sh) := by
  obtain ⟨a, e, hq, hco⟩ := hwo.get hc
  obtain ⟨vs, rfl, -, -, h2⟩ := hco
  obtain ⟨u, u1, u2⟩ := two_at h2 k _ hv
  obtain ⟨x, rfl, hx⟩ := (show ∃ x : Int32, u = .int x ∧ x.toInt = v from u2)
  refine ⟨x, hx, vs, ?_, (List.getElem?_eq_some_iff.mp u1).1, ?_⟩
  · show hof ws (bs_B ws q) = _
    rw [bs_Be hq, hof_at hd hq]
  · rw [List.getD_eq_getElem?_getD, u1]
    rfl
theorem ini_eq {tys : List (ClassId × FieldType)} {ws : va_W} (hwo : mk_wo tys ws lp_L2) (hd : f_dj ws) {q ci n q2 ci2 n2 : Nat} {vals vals2 : List mk_V} (hc : lp_L2[q]? = some (0, ci, n, vals)) {k k2 : Nat} {v : Int} (hv : vals[k]? = some (1, v, 0)) (hc2 : lp_L2[q2]? = some (0, ci2, n2, vals2)) (hv2 : vals2[k2]? = some (1, v, 0)) : ∃ x : Int32, oF (bs_B ws) q ci k (.int x) (ws, lp_sh) ∧ oF (bs_B ws) q2 ci2 k2 (.int x) (ws, lp_sh) := by
  obtain ⟨x, x1, x2⟩ := ini_oF hwo hd hc hv
  obtain ⟨y, y1, y2⟩ := ini_oF hwo hd hc2 hv2
  have e : x = y := Int32.toInt_inj.mp (x1.trans y1.symm)
  subst e
  exact ⟨x, x2, y2⟩
theorem J_ini {tys : List (ClassId × FieldType)} {ws : va_W} (hwo : mk_wo tys ws lp_L2) (hd : f_dj ws) : J4 (bs_B ws) (ws, lp_sh) :=
  ⟨⟨J_ini48 hwo hd, ini_eq hwo hd bl_0 (k := 1) (v := 0) rfl bl_343 (k2 := 1) rfl⟩, ini_eq hwo hd bl_282 (k := 0) (v := 0) rfl bl_343 (k2 := 40) rfl, ini_eq hwo hd bl_207 (k := 1) (v := 0) rfl bl_343 (k2 := 27) rfl⟩
theorem J_ini6 {tys : List (ClassId × FieldType)} {ws : va_W} (hwo : mk_wo tys ws lp_L2) (hck : ck_wo tys cw_TT cw_SG ws lp_sh) (hd : f_dj ws) : J6 (bs_B ws) (ws, lp_sh) := by
  have h4 := J_ini hwo hd
  obtain ⟨x, x1, x2⟩ := ini_oF hwo hd bl_0 (k := 1) (v := 0) rfl
  obtain ⟨W, hW⟩ := wS.of h4.b hck
  obtain ⟨g, hg⟩ := aJ.of h4.b hck bl_344 bt_344 (show cw_TT[45]? = some (2, 240, _, _) from rfl)
  exact ⟨h4, x, W, g, x2, hW, hg, fun i hi => by omega⟩
theorem bl_193 : lp_L2[193]? = some (0, 2, 12, [(2, 0, 194), (1, 0, 0), (1, 0, 0), (1, 99, 0), (2, 0, 195), (2, 0, 196), (2, 0, 197), (2, 0, 199), (2, 0, 201), (2, 0, 203), (2, 0, 205), (1, (-1), 0)]) := lp_at_ok (by decide +kernel)
theorem bl_194 : lp_L2[194]? = some (1, 0, 6, [(1, 5, 0), (1, 5, 0), (1, 5, 0), (1, 5, 0), (1, 5, 0), (1, 5, 0)]) := lp_at_ok (by decide +kernel)
theorem bl_345 : lp_L2[345]? = some (1, 0, 6, [(1, 5, 0), (1, 5, 0), (1, 5, 0), (1, 5, 0), (1, 5, 0), (1, 5, 0)]) := lp_at_ok (by decide +kernel)
theorem bl_379 : lp_L2[379]? = some (1, 0, 6, [(1, (-9), 0), (1, (-9), 0), (1, (-9), 0), (1, (-9), 0), (1, (-9), 0), (1, (-9), 0)]) := lp_at_ok (by decide +kernel)
theorem bl_334 : lp_L2[334]? = some (3, 6, 6, []) := lp_at_ok (by decide +kernel)
theorem bl_342 : lp_L2[342]? = some (1, 0, 1, []) := lp_at_ok (by decide +kernel)
theorem ini_zF {tys : List (ClassId × FieldType)} {ws : va_W} {A : zW} (hwo : mk_wo tys ws lp_L2) (hd : f_dj ws) (hb : bI (bs_B ws) (ws, lp_sh)) (hA : zA A ws lp_sh) {q ci n : Nat} {vals : List mk_V} (hc : lp_L2[q]? = some (0, ci, n, vals)) {k : Nat} {v : Int} (hv : vals[k]? = some (1, v, 0)) (hq : q < 385) (hz : zc q k = 0) : zF A q k = .int (Int32.ofInt v) := by
  obtain ⟨x, hx, ho⟩ := ini_oF hwo hd hc hv
  have h1 := zo_F (w := (ws, lp_sh)) hA hb hq hz ho
  rw [h1, ← hx, Int32.ofInt_toInt]
theorem ini_zI {tys : List (ClassId × FieldType)} {ws : va_W} {A : zW} (hwo : mk_wo tys ws lp_L2) (hA : zA A ws lp_sh) {q x n : Nat} {vals : List mk_V} (hc : lp_L2[q]? = some (1, x, n, vals)) {i : Nat} {v : Int} (hv : mk_at (1, x, n, vals) i = (1, v, 0)) : (zI A q i).toInt = v := by
  obtain ⟨a, e, hq, hco⟩ := hwo.get hc
  obtain ⟨cA, f, -, rfl, h2⟩ := hco
  have h3 := (hA.2.2 q a _ hq).2.2 i
  have h3 : zI A q i = f i := h3
  have h4 := h2 i
  rw [hv] at h4
  obtain ⟨w, h5, h6⟩ := (show ∃ w : Int32, Value.int (f i) = .int w ∧ w.toInt = v from h4)
  injection h5 with h5
  rw [h3, h5]
  exact h6
theorem ini_zR {tys : List (ClassId × FieldType)} {ws : va_W} {A : zW} (hwo : mk_wo tys ws lp_L2) (hA : zA A ws lp_sh) {q x n : Nat} {vals : List mk_V} (hc : lp_L2[q]? = some (3, x, n, vals)) {i : Nat} (hi : i < n) (hv : mk_at (3, x, n, vals) i = (0, 0, 0)) (hz : ∀ A : zW, zrl A q i = zR A q i) : zR A q i = .null := by
  obtain ⟨a, e, hq, hco⟩ := hwo.get hc
  obtain ⟨cA, C, f, -, rfl, h2⟩ := hco
  have h3 := (hA.2.2 q a _ hq).2.2 i hi
  have h3 : zvr ws (va_rf (f i)) (zrl A q i) := h3
  have h4 := h2 i
  rw [hv] at h4
  have h4 : va_rf (f i) = .null := h4
  rw [h4, hz] at h3
  generalize zR A q i = u at h3 ⊢
  cases u <;> first | rfl | (obtain ⟨p, e, h5, -⟩ := h3; cases h5) | exact absurd h3 (by intro z; cases z)
theorem i_six {P : Nat → Prop} (h0 : P 0) (h1 : P 1) (h2 : P 2) (h3 : P 3) (h4 : P 4) (h5 : P 5) : ∀ i, i < 6 → P i := fun i hi => by
  rcases (show i = 0 ∨ i = 1 ∨ i = 2 ∨ i = 3 ∨ i = 4 ∨ i = 5 by omega) with rfl | rfl | rfl | rfl | rfl | rfl <;> assumption
theorem J_ini7 {tys : List (ClassId × FieldType)} {ws : va_W} (hwo : mk_wo tys ws lp_L2) (hck : ck_wo tys cw_TT cw_SG ws lp_sh) (hd : f_dj ws) : J7 (bs_B ws) (ws, lp_sh) := by
  have h6 := J_ini6 hwo hck hd
  have hb := h6.1.b
  obtain ⟨A, hA⟩ := zA_ini hd hck hb.2
  refine ⟨h6, A, hA, Int32.ofInt 0, Int32.ofInt 0, Int32.ofInt 0, ⟨⟨ini_zF hwo hd hb hA bl_193 (k := 1) rfl (by decide) (by decide +kernel), by decide, by decide⟩, ini_zF hwo hd hb hA bl_343 (k := 8) rfl (by decide) (by decide +kernel), fun e he => ?_⟩, ⟨⟨ini_zF hwo hd hb hA bl_207 (k := 1) rfl (by decide) (by decide +kernel), by decide, by decide⟩, ini_zF hwo hd hb hA bl_343 (k := 27) rfl (by decide) (by decide +kernel), fun e he => ?_⟩, ⟨⟨ini_zF hwo hd hb hA bl_282 (k := 0) rfl (by decide) (by decide +kernel), by decide, by decide⟩, ini_zF hwo hd hb hA bl_343 (k := 40) rfl (by decide) (by decide +kernel), fun e he => ?_⟩, ?_, ⟨Int32.ofInt 0, Int32.ofInt 99, ini_zF hwo hd hb hA bl_193 (k := 2) rfl (by decide) (by decide +kernel), ini_zF hwo hd hb hA bl_343 (k := 15) rfl (by decide) (by decide +kernel), ini_zF hwo hd hb hA bl_193 (k := 3) rfl (by decide) (by decide +kernel), ini_zF hwo hd hb hA bl_343 (k := 16) rfl (by decide) (by decide +kernel)⟩, ?_, ?_⟩
  · have he : (e : Int) < (Int32.ofInt 0).toInt := he
    have e0 : (Int32.ofInt 0).toInt = 0 := by decide
    omega
  · have he : (e : Int) < (Int32.ofInt 0).toInt := he
    have e0 : (Int32.ofInt 0).toInt = 0 := by decide
    omega
  · have he : (e : Int) < (Int32.ofInt 0).toInt := he
    have e0 : (Int32.ofInt 0).toInt = 0 := by decide
    omega
  · have one : ∀ i, mk_at (1, 0, 6, [(1, 5, 0), (1, 5, 0), (1, 5, 0), (1, 5, 0), (1, 5, 0), (1, 5, 0)]) i = (1, 5, 0) → mk_at (1, 0, 6, [(1, 5, 0), (1, 5, 0), (1, 5, 0), (1, 5, 0), (1, 5, 0), (1, 5, 0)]) i = (1, 5, 0) → zI A 194 i = zI A 345 i := fun i a b => Int32.toInt_inj.mp ((ini_zI hwo hA bl_194 a).trans (ini_zI hwo hA bl_345 b).symm)
    exact i_six (one 0 rfl rfl) (one 1 rfl rfl) (one 2 rfl rfl) (one 3 rfl rfl) (one 4 rfl rfl) (one 5 rfl rfl)
  · have one : ∀ i, i < 6 → mk_at (1, 0, 6, [(1, (-9), 0), (1, (-9), 0), (1, (-9), 0), (1, (-9), 0), (1, (-9), 0), (1, (-9), 0)]) i = (1, -9, 0) → mk_at (3, 6, 6, []) i = (0, 0, 0) → jhd A (Int32.ofInt 0) (Int32.ofInt 0) i := fun i hi a b => Or.inl ⟨by rw [ini_zI hwo hA bl_379 a]; decide, ini_zR hwo hA bl_334 hi b (fun _ => zrl_334)⟩
    exact i_six (one 0 (by decide) rfl rfl) (one 1 (by decide) rfl rfl) (one 2 (by decide) rfl rfl) (one 3 (by decide) rfl rfl) (one 4 (by decide) rfl rfl) (one 5 (by decide) rfl rfl)
  · have h1 : zF A 343 63 = .int (Int32.ofInt 0) := ini_zF hwo hd hb hA bl_343 (k := 63) rfl (by decide) (by decide +kernel)
    have h2 : zI A 342 0 = Int32.ofInt 0 := Int32.toInt_inj.mp ((ini_zI hwo hA (i := 0) (v := 0) bl_342 rfl).trans (by decide))
    show zF A 343 63 = .int (zI A 342 0)
    rw [h1, h2]
theorem pj_read {B : Nat → Nat} : pq_read (B 0) (B 343) (J7 B) := fun w w1 w2 rv1 rv2 a0 a1 a2 a3 hJ h1 h2 => have e := pk6_read w w1 w2 rv1 rv2 a0 a1 a2 a3 hJ.1 h1 h2; up7 hJ h1 h2 (by decide) (by decide) (by decide) (by decide) e.2
theorem pj_make {B : Nat → Nat} : pq_make (B 0) (B 343) (J7 B) := fun w w1 w2 rv1 rv2 a0 a1 a2 hJ h1 h2 => have e := pk6_make w w1 w2 rv1 rv2 a0 a1 a2 hJ.1 h1 h2; up7 hJ h1 h2 (by decide) (by decide) (by decide) (by decide) e.2
theorem pj_worlds {B : Nat → Nat} : pq_worlds (B 0) (B 343) (J7 B) := fun w w1 w2 rv1 rv2 a0 hJ h1 h2 => have e := pk6_worlds w w1 w2 rv1 rv2 a0 hJ.1 h1 h2; up7 hJ h1 h2 (by decide) (by decide) (by decide) (by decide) e.2
theorem pj_truth {B : Nat → Nat} : pq_truth (B 0) (B 343) (J7 B) := fun w w1 w2 rv1 rv2 a0 a1 hJ h1 h2 => have e := pk6_truth w w1 w2 rv1 rv2 a0 a1 hJ.1 h1 h2; up7 hJ h1 h2 (by decide) (by decide) (by decide) (by decide) e.2
theorem pj_compare {B : Nat → Nat} : pq_compare (B 0) (B 343) (J7 B) := fun w w1 w2 rv1 rv2 a0 a1 hJ h1 h2 => have e := pk6_compare w w1 w2 rv1 rv2 a0 a1 hJ.1 h1 h2; up7 hJ h1 h2 (by decide) (by decide) (by decide) (by decide) e.2
theorem pj_trust {B : Nat → Nat} : pq_trust (B 0) (B 343) (J7 B) := fun w w1 w2 rv1 rv2 a0 a1 hJ h1 h2 => have e := pk7_trust w w1 w2 rv1 rv2 a0 a1 hJ h1 h2; e.2
theorem pj_hold {B : Nat → Nat} : pq_hold (B 0) (B 343) (J7 B) := fun w w1 w2 rv1 rv2 a0 a1 a2 a3 a4 hJ h1 h2 => have e := pk7_hold w w1 w2 rv1 rv2 a0 a1 a2 a3 a4 hJ h1 h2; e.2
theorem pj_view {B : Nat → Nat} : pq_view (B 0) (B 343) (J7 B) := fun w w1 w2 rv1 rv2 a0 a1 hJ h1 h2 => pk7_view w w1 w2 rv1 rv2 a0 a1 hJ h1 h2
theorem pj_entry {B : Nat → Nat} : pq_entry (B 0) (B 343) (J7 B) := fun w w1 w2 rv1 rv2 a0 a1 hJ h1 h2 => up7 hJ h1 h2 (by decide) (by decide) (by decide) (by decide) (fr6 h2 (fr6 h1 hJ.1 (by decide) (by decide) (by decide) (by decide) (by decide)) (by decide) (by decide) (by decide) (by decide) (by decide))
theorem pj_drop {B : Nat → Nat} : pq_drop (B 0) (B 343) (J7 B) := fun w w1 w2 rv1 rv2 a0 a1 hJ h1 h2 => up7 hJ h1 h2 (by decide) (by decide) (by decide) (by decide) (fr6 h2 (fr6 h1 hJ.1 (by decide) (by decide) (by decide) (by decide) (by decide)) (by decide) (by decide) (by decide) (by decide) (by decide))
theorem pj_weight {B : Nat → Nat} : pq_weight (B 0) (B 343) (J7 B) := fun w w1 w2 rv1 rv2 a0 hJ h1 h2 => have e := pk7_weight w w1 w2 rv1 rv2 a0 hJ h1 h2; e.2
theorem pj_together {B : Nat → Nat} : pq_together (B 0) (B 343) (J7 B) := fun w w1 w2 rv1 rv2 a0 hJ h1 h2 => up7 hJ h1 h2 (by decide) (by decide) (by decide) (by decide) (fr6 h2 (fr6 h1 hJ.1 (by decide) (by decide) (by decide) (by decide) (by decide)) (by decide) (by decide) (by decide) (by decide) (by decide))
theorem pj_reasons {B : Nat → Nat} : pq_reasons (B 0) (B 343) (J7 B) := fun w w1 w2 rv1 rv2 a0 a1 hJ h1 h2 => up7 hJ h1 h2 (by decide) (by decide) (by decide) (by decide) (fr6 h2 (fr6 h1 hJ.1 (by decide) (by decide) (by decide) (by decide) (by decide)) (by decide) (by decide) (by decide) (by decide) (by decide))
theorem pj_reason {B : Nat → Nat} : pq_reason (B 0) (B 343) (J7 B) := fun w w1 w2 rv1 rv2 a0 a1 a2 hJ h1 h2 => up7 hJ h1 h2 (by decide) (by decide) (by decide) (by decide) (fr6 h2 (fr6 h1 hJ.1 (by decide) (by decide) (by decide) (by decide) (by decide)) (by decide) (by decide) (by decide) (by decide) (by decide))
theorem pj_harmonies {B : Nat → Nat} : pq_harmonies (B 0) (B 343) (J7 B) := fun w w1 w2 rv1 rv2 a0 hJ h1 h2 => up7 hJ h1 h2 (by decide) (by decide) (by decide) (by decide) (fr6 h2 (fr6 h1 hJ.1 (by decide) (by decide) (by decide) (by decide) (by decide)) (by decide) (by decide) (by decide) (by decide) (by decide))
theorem pj_harmony {B : Nat → Nat} : pq_harmony (B 0) (B 343) (J7 B) := fun w w1 w2 rv1 rv2 a0 a1 hJ h1 h2 => up7 hJ h1 h2 (by decide) (by decide) (by decide) (by decide) (fr6 h2 (fr6 h1 hJ.1 (by decide) (by decide) (by decide) (by decide) (by decide)) (by decide) (by decide) (by decide) (by decide) (by decide))
theorem pj_held {B : Nat → Nat} : pq_held (B 0) (B 343) (J7 B) := fun w w1 w2 rv1 rv2 a0 a1 hJ h1 h2 => up7 hJ h1 h2 (by decide) (by decide) (by decide) (by decide) (fr6 h2 (fr6 h1 hJ.1 (by decide) (by decide) (by decide) (by decide) (by decide)) (by decide) (by decide) (by decide) (by decide) (by decide))
theorem pj_cuts {B : Nat → Nat} : pq_cuts (B 0) (B 343) (J7 B) := fun w w1 w2 rv1 rv2 a0 hJ h1 h2 => up7 hJ h1 h2 (by decide) (by decide) (by decide) (by decide) (fr6 h2 (fr6 h1 hJ.1 (by decide) (by decide) (by decide) (by decide) (by decide)) (by decide) (by decide) (by decide) (by decide) (by decide))
theorem pj_cutOf {B : Nat → Nat} : pq_cutOf (B 0) (B 343) (J7 B) := fun w w1 w2 rv1 rv2 a0 a1 hJ h1 h2 => up7 hJ h1 h2 (by decide) (by decide) (by decide) (by decide) (fr6 h2 (fr6 h1 hJ.1 (by decide) (by decide) (by decide) (by decide) (by decide)) (by decide) (by decide) (by decide) (by decide) (by decide))
theorem pj_least {B : Nat → Nat} : pq_least (B 0) (B 343) (J7 B) := fun w w1 w2 rv1 rv2 a0 hJ h1 h2 => up7 hJ h1 h2 (by decide) (by decide) (by decide) (by decide) (fr6 h2 (fr6 h1 hJ.1 (by decide) (by decide) (by decide) (by decide) (by decide)) (by decide) (by decide) (by decide) (by decide) (by decide))
theorem pj_giveUp {B : Nat → Nat} : pq_giveUp (B 0) (B 343) (J7 B) := fun w w1 w2 rv1 rv2 a0 hJ h1 h2 => up7 hJ h1 h2 (by decide) (by decide) (by decide) (by decide) (fr6 h2 (fr6 h1 hJ.1 (by decide) (by decide) (by decide) (by decide) (by decide)) (by decide) (by decide) (by decide) (by decide) (by decide))
theorem pj_news {B : Nat → Nat} : pq_news (B 0) (B 343) (J7 B) := fun w w1 w2 rv1 rv2 a0 a1 hJ h1 h2 => have e := pk7_news w w1 w2 rv1 rv2 a0 a1 hJ h1 h2; e.2
theorem pj_postulate {B : Nat → Nat} : pq_postulate (B 0) (B 343) (J7 B) := fun w w1 w2 rv1 rv2 a0 a1 hJ h1 h2 => up7 hJ h1 h2 (by decide) (by decide) (by decide) (by decide) (fr6 h2 (fr6 h1 hJ.1 (by decide) (by decide) (by decide) (by decide) (by decide)) (by decide) (by decide) (by decide) (by decide) (by decide))
theorem pj_rule {B : Nat → Nat} : pq_rule (B 0) (B 343) (J7 B) := fun w w1 w2 rv1 rv2 a0 a1 a2 a3 a4 hJ h1 h2 => have e := pk4_rule w w1 w2 rv1 rv2 a0 a1 a2 a3 a4 hJ.1.1 h1 h2; have f := pk7_rule w w1 w2 rv1 rv2 a0 a1 a2 a3 a4 hJ h1 h2 (up4 hJ.1 h1 h2 (by decide) (by decide) (by decide) e.2); f.2
theorem pj_ruled {B : Nat → Nat} : pq_ruled (B 0) (B 343) (J7 B) := fun w w1 w2 rv1 rv2 a0 a1 hJ h1 h2 => up7 hJ h1 h2 (by decide) (by decide) (by decide) (by decide) (fr6 h2 (fr6 h1 hJ.1 (by decide) (by decide) (by decide) (by decide) (by decide)) (by decide) (by decide) (by decide) (by decide) (by decide))
theorem pj_extensions {B : Nat → Nat} : pq_extensions (B 0) (B 343) (J7 B) := fun w w1 w2 rv1 rv2 a0 hJ h1 h2 => up7 hJ h1 h2 (by decide) (by decide) (by decide) (by decide) (fr6 h2 (fr6 h1 hJ.1 (by decide) (by decide) (by decide) (by decide) (by decide)) (by decide) (by decide) (by decide) (by decide) (by decide))
theorem pj_extension {B : Nat → Nat} : pq_extension (B 0) (B 343) (J7 B) := fun w w1 w2 rv1 rv2 a0 a1 hJ h1 h2 => up7 hJ h1 h2 (by decide) (by decide) (by decide) (by decide) (fr6 h2 (fr6 h1 hJ.1 (by decide) (by decide) (by decide) (by decide) (by decide)) (by decide) (by decide) (by decide) (by decide) (by decide))
theorem pj_concluded {B : Nat → Nat} : pq_concluded (B 0) (B 343) (J7 B) := fun w w1 w2 rv1 rv2 a0 a1 hJ h1 h2 => up7 hJ h1 h2 (by decide) (by decide) (by decide) (by decide) (fr6 h2 (fr6 h1 hJ.1 (by decide) (by decide) (by decide) (by decide) (by decide)) (by decide) (by decide) (by decide) (by decide) (by decide))
theorem pj_claim {B : Nat → Nat} : pq_claim (B 0) (B 343) (J7 B) := fun w w1 w2 rv1 rv2 a0 a1 hJ h1 h2 => have e := pk4_claim w w1 w2 rv1 rv2 a0 a1 hJ.1.1 h1 h2; have f := pk7_claim w w1 w2 rv1 rv2 a0 a1 hJ h1 h2 (up4 hJ.1 h1 h2 (by decide) (by decide) (by decide) e.2); f.2
theorem pj_strikes {B : Nat → Nat} : pq_strikes (B 0) (B 343) (J7 B) := fun w w1 w2 rv1 rv2 a0 a1 hJ h1 h2 => up7 hJ h1 h2 (by decide) (by decide) (by decide) (by decide) (fr6 h2 (fr6 h1 hJ.1 (by decide) (by decide) (by decide) (by decide) (by decide)) (by decide) (by decide) (by decide) (by decide) (by decide))
theorem pj_claimed {B : Nat → Nat} : pq_claimed (B 0) (B 343) (J7 B) := fun w w1 w2 rv1 rv2 a0 a1 hJ h1 h2 => up7 hJ h1 h2 (by decide) (by decide) (by decide) (by decide) (fr6 h2 (fr6 h1 hJ.1 (by decide) (by decide) (by decide) (by decide) (by decide)) (by decide) (by decide) (by decide) (by decide) (by decide))
theorem pj_sets {B : Nat → Nat} : pq_sets (B 0) (B 343) (J7 B) := fun w w1 w2 rv1 rv2 a0 hJ h1 h2 => up7 hJ h1 h2 (by decide) (by decide) (by decide) (by decide) (fr6 h2 (fr6 h1 hJ.1 (by decide) (by decide) (by decide) (by decide) (by decide)) (by decide) (by decide) (by decide) (by decide) (by decide))
theorem pj_setOf {B : Nat → Nat} : pq_setOf (B 0) (B 343) (J7 B) := fun w w1 w2 rv1 rv2 a0 a1 hJ h1 h2 => up7 hJ h1 h2 (by decide) (by decide) (by decide) (by decide) (fr6 h2 (fr6 h1 hJ.1 (by decide) (by decide) (by decide) (by decide) (by decide)) (by decide) (by decide) (by decide) (by decide) (by decide))
theorem pj_parts {B : Nat → Nat} : pq_parts (B 0) (B 343) (J7 B) := fun w w1 w2 rv1 rv2  hJ h1 h2 => up7 hJ h1 h2 (by decide) (by decide) (by decide) (by decide) (fr6 h2 (fr6 h1 hJ.1 (by decide) (by decide) (by decide) (by decide) (by decide)) (by decide) (by decide) (by decide) (by decide) (by decide))
theorem pj_far {B : Nat → Nat} : pq_far (B 0) (B 343) (J7 B) := fun w w1 w2 rv1 rv2 a0 a1 hJ h1 h2 => up7 hJ h1 h2 (by decide) (by decide) (by decide) (by decide) (fr6 h2 (fr6 h1 hJ.1 (by decide) (by decide) (by decide) (by decide) (by decide)) (by decide) (by decide) (by decide) (by decide) (by decide))
theorem pj_merged {B : Nat → Nat} : pq_merged (B 0) (B 343) (J7 B) := fun w w1 w2 rv1 rv2 a0 hJ h1 h2 => up7 hJ h1 h2 (by decide) (by decide) (by decide) (by decide) (fr6 h2 (fr6 h1 hJ.1 (by decide) (by decide) (by decide) (by decide) (by decide)) (by decide) (by decide) (by decide) (by decide) (by decide))
theorem pj_mergedWorld {B : Nat → Nat} : pq_mergedWorld (B 0) (B 343) (J7 B) := fun w w1 w2 rv1 rv2 a0 a1 hJ h1 h2 => up7 hJ h1 h2 (by decide) (by decide) (by decide) (by decide) (fr6 h2 (fr6 h1 hJ.1 (by decide) (by decide) (by decide) (by decide) (by decide)) (by decide) (by decide) (by decide) (by decide) (by decide))
theorem pj_agreed {B : Nat → Nat} : pq_agreed (B 0) (B 343) (J7 B) := fun w w1 w2 rv1 rv2 a0 a1 hJ h1 h2 => up7 hJ h1 h2 (by decide) (by decide) (by decide) (by decide) (fr6 h2 (fr6 h1 hJ.1 (by decide) (by decide) (by decide) (by decide) (by decide)) (by decide) (by decide) (by decide) (by decide) (by decide))
theorem pj_take {B : Nat → Nat} : pq_take (B 0) (B 343) (J7 B) := fun w w1 w2 rv1 rv2 a0 a1 a2 hJ h1 h2 => have e := pk7_take w w1 w2 rv1 rv2 a0 a1 a2 hJ h1 h2; e.2
theorem pj_loose {B : Nat → Nat} : pq_loose (B 0) (B 343) (J7 B) := fun w w1 w2 rv1 rv2 a0 hJ h1 h2 => have e := pk7_loose w w1 w2 rv1 rv2 a0 hJ h1 h2; e.2
theorem pj_as {B : Nat → Nat} : pq_as (B 0) (B 343) (J7 B) := fun w w1 w2 rv1 rv2 a0 a1 hJ h1 h2 => have e := pk7_as w w1 w2 rv1 rv2 a0 a1 hJ h1 h2; e
theorem pj_tell {B : Nat → Nat} : pq_tell (B 0) (B 343) (J7 B) := fun w w1 w2 rv1 rv2 a0 hJ h1 h2 => have e := pk7_tell w w1 w2 rv1 rv2 a0 hJ h1 h2; e.2
theorem pj_show {B : Nat → Nat} : pq_show (B 0) (B 343) (J7 B) := fun w w1 w2 rv1 rv2 a0 hJ h1 h2 => have e := pk7_show w w1 w2 rv1 rv2 a0 hJ h1 h2; e.2
theorem pj_sheet {B : Nat → Nat} : pq_sheet (B 0) (B 343) (J7 B) := fun w w1 w2 rv1 rv2 a0 a1 a2 hJ h1 h2 => have e := pk_sheet w w1 w2 rv1 rv2 a0 a1 a2 hJ.1.1.1.1 h1 h2; up7 hJ h1 h2 (by decide) (by decide) (by decide) (by decide) (up4 hJ.1 h1 h2 (by decide) (by decide) (by decide) (up48 hJ.1.1 h1 h2 (by decide) (by decide) (by decide) (by decide) (by decide) e.2))
theorem pj_lose {B : Nat → Nat} : pq_lose (B 0) (B 343) (J7 B) := fun w w1 w2 rv1 rv2 a0 hJ h1 h2 => have e := pk_lose w w1 w2 rv1 rv2 a0 hJ.1.1.1.1 h1 h2; up7 hJ h1 h2 (by decide) (by decide) (by decide) (by decide) (up4 hJ.1 h1 h2 (by decide) (by decide) (by decide) (up48 hJ.1.1 h1 h2 (by decide) (by decide) (by decide) (by decide) (by decide) e.2))
theorem pj_put {B : Nat → Nat} : pq_put (B 0) (B 343) (J7 B) := fun w w1 w2 rv1 rv2 a0 a1 a2 hJ h1 h2 => have e := pk_put w w1 w2 rv1 rv2 a0 a1 a2 hJ.1.1.1.1 h1 h2; up7 hJ h1 h2 (by decide) (by decide) (by decide) (by decide) (up4 hJ.1 h1 h2 (by decide) (by decide) (by decide) (up48 hJ.1.1 h1 h2 (by decide) (by decide) (by decide) (by decide) (by decide) e.2))
theorem pj_cell {B : Nat → Nat} : pq_cell (B 0) (B 343) (J7 B) := fun w w1 w2 rv1 rv2 a0 a1 a2 hJ h1 h2 => have e := pk_cell w w1 w2 rv1 rv2 a0 a1 a2 hJ.1.1.1.1 h1 h2; up7 hJ h1 h2 (by decide) (by decide) (by decide) (by decide) (up4 hJ.1 h1 h2 (by decide) (by decide) (by decide) (up48 hJ.1.1 h1 h2 (by decide) (by decide) (by decide) (by decide) (by decide) e.2))
theorem pj_copy {B : Nat → Nat} : pq_copy (B 0) (B 343) (J7 B) := fun w w1 w2 rv1 rv2 a0 a1 a2 a3 a4 hJ h1 h2 => have e := pk_copy w w1 w2 rv1 rv2 a0 a1 a2 a3 a4 hJ.1.1.1.1 h1 h2; up7 hJ h1 h2 (by decide) (by decide) (by decide) (by decide) (up4 hJ.1 h1 h2 (by decide) (by decide) (by decide) (up48 hJ.1.1 h1 h2 (by decide) (by decide) (by decide) (by decide) (by decide) e.2))
theorem pj_trace {B : Nat → Nat} : pq_trace (B 0) (B 343) (J7 B) := fun w w1 w2 rv1 rv2  hJ h1 h2 => have e := pk7_trace w w1 w2 rv1 rv2  hJ h1 h2; e.2
theorem pj_fault {B : Nat → Nat} : pq_fault (B 0) (B 343) (J7 B) := fun w w1 w2 rv1 rv2  hJ h1 h2 => up7 hJ h1 h2 (by decide) (by decide) (by decide) (by decide) (fr6 h2 (fr6 h1 hJ.1 (by decide) (by decide) (by decide) (by decide) (by decide)) (by decide) (by decide) (by decide) (by decide) (by decide))
theorem pj_many {B : Nat → Nat} : pq_many (B 0) (B 343) (J7 B) := fun w w1 w2 rv1 rv2 a0 hJ h1 h2 => up7 hJ h1 h2 (by decide) (by decide) (by decide) (by decide) (fr6 h2 (fr6 h1 hJ.1 (by decide) (by decide) (by decide) (by decide) (by decide)) (by decide) (by decide) (by decide) (by decide) (by decide))
theorem law_ok {tys : List (ClassId × FieldType)} {ws : va_W} {q1 q2 b L : Nat} {xs : Nat → Int32} (hwo : mk_wo tys ws lp_L2) (hck : ck_wo tys cw_TT cw_SG ws lp_sh) (hd : f_dj ws) (_ : f_out ws b) (h1 : ∃ e, ws[0]? = some (q1, e)) (h2 : ∃ e, ws[343]? = some (q2, e)) : lw_one (18, [(3, .int 0), (2, .ref q2), (1, .ref q1), (0, .ref b)], [], ws, lp_sh) b L xs := by
  obtain ⟨e1, h1⟩ := h1
  obtain ⟨e2, h2⟩ := h2
  rw [← bs_Be h1, ← bs_Be h2]
  exact law_walk pj_read pj_make pj_worlds pj_truth pj_compare pj_trust pj_hold pj_view pj_entry pj_drop pj_weight pj_together pj_reasons pj_reason pj_harmonies pj_harmony pj_held pj_cuts pj_cutOf pj_least pj_giveUp pj_news pj_postulate pj_rule pj_ruled pj_extensions pj_extension pj_concluded pj_claim pj_strikes pj_claimed pj_sets pj_setOf pj_parts pj_far pj_merged pj_mergedWorld pj_agreed pj_take pj_loose pj_as pj_tell pj_show pj_sheet pj_lose pj_put pj_cell pj_copy pj_trace pj_fault pj_many hd (J_ini7 hwo hck hd)
