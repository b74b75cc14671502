noncomputable section
/-! what a state says -/
/-- signs that wait: 38, 62, 124 take two values -/
def ck_b3 (x : Int32) : Bool := x == 38 || (x == 62 || x == 124)
def ck_cn (p : Int32 → Bool) (f : Nat → Int32) : Nat → Nat
  | 0 => 0
  | k + 1 => ck_cn p f k + if p (f k) then 1 else 0
/-- of the first m signs c take two values, o are open brackets -/
def ck_ng (tag : Nat) (f : Nat → Int32) (m : Int) (l : List Int) : Prop := match l with
  | [c, o] => 0 ≤ m ∧ c = (ck_cn ck_b3 f m.toNat : Int) ∧ o = (ck_cn (fun x => x == 40) f m.toNat : Int) ∧ (∀ j, j < m.toNat → ck_b3 (f j) = true ∨ f j = 40 ∨ f j = 45) ∧ (∀ j, j + 1 < m.toNat → f j = 45 → f (j + 1) = 45 ∨ f (j + 1) = 40) ∧
    (21 ≤ tag → 0 < m.toNat → f (m.toNat - 1) ≠ 45) ∧ (22 ≤ tag → 0 < m.toNat ∧ ck_b3 (f (m.toNat - 1)) = true)
  | _ => False
/-- what a note says: of the signs; of an array's content (50); of what is held (30, 33) and its numbers (31, 32, 34, 35) by a set of places -/
def ck_nt (tag : Nat) (f : Nat → Int32) (m : Int) (l : List Int) : Prop := if tag < 30 then ck_ng tag f m l else match tag, l with
  | 30, _ => ∀ i : Nat, i < 6 → (f i).toInt = 1 → m.toNat.testBit i = true
  | 31, _ => ∀ i : Nat, i < 6 → m.toNat.testBit i = true → (f i).toInt ≤ 9
  | 32, _ => (f m.toNat).toInt ≤ 9
  | 33, [w] => (f m.toNat).toInt = w
  | 34, [k] => ∀ i : Nat, i < 6 → i ≠ k.toNat → m.toNat.testBit i = true → (f i).toInt ≤ 9
  | 35, [k] => (∀ i : Nat, i < 6 → m.toNat.testBit i = true → (f i).toInt ≤ 9) ∧ m.toNat.testBit k.toNat = false
  | 50, l => ∀ (i : Nat) (z : Int), l[i]? = some z → (f i).toInt = z
  | 60, [z] => m + z ≤ 240
  | _, _ => False
def ck_mo (SG : List Nat) (ws : va_W) (sh : List Nat) (sc : ck_sc) (n : ck_N) (N : Nat) (mem : List ck_M) : Prop := ∀ x ∈ mem,
  (x.1 = 0 ∧ x.2.2.2.1 < N ∧ ((x.2.2.1 = 0 ∧ x.2.1 < N ∧ ∃ (b L : Nat) (xs : Nat → Int32), sc.1 = some (b, L, xs) ∧ (n x.2.2.2.1).1 = (xs (n x.2.1).1.toNat).toInt) ∨ (x.2.2.1 = 8 ∧ (n x.2.2.2.1).1 = sc.2.2 x.2.1))) ∨
  (x.1 ≠ 0 ∧ x.1 ∈ SG ∧ ∃ (q a : Nat) (o : Nat × List Value) (v : Value), sh[q]? = some x.1 ∧ ws[q]? = some (a, .inr o) ∧ o.2[x.2.1]? = some v ∧ ck_vo ws sh sc n N x.2.2 v) ∨
  (20 ≤ x.2.2.1 ∧ x.1 ≠ 0 ∧ x.1 ∈ SG ∧ x.2.1 = 0 ∧ x.2.2.2.1 < N ∧ (∀ j ∈ x.2.2.2.2, j < N) ∧ ∃ (q a : Nat) (cA : ClassId) (len : Nat) (f : Nat → Int32), sh[q]? = some x.1 ∧ ws[q]? = some (a, .inl (cA, len, .inl f)) ∧ ck_nt x.2.2.1 f (n x.2.2.2.1).1 (x.2.2.2.2.map (fun j => (n j).1)))
def ck_lo (ws : va_W) (sh : List Nat) (sc : ck_sc) (n : ck_N) (N nL : Nat) (loc : List (Nat × ck_V)) (ls : Array Slot) : Prop :=
  ∃ lv, lv_has ls nL lv ∧ ck_two (fun (x : Nat × ck_V) (y : Nat × Value) => x.1 = y.1 ∧ ck_vo ws sh sc n N x.2 y.2) loc lv
def ck_so (nL : Nat) (SG : List Nat) (S : ck_S) (n : ck_N) (ws : va_W) (sh : List Nat) (sc : ck_sc) (ls : Array Slot) (vs : List Value) : Prop :=
  (0 < S.2.2.2.1.length ∧ (n 0).1 = 0) ∧ ck_lo ws sh sc n S.2.2.2.1.length nL S.1 ls ∧ ck_two (ck_vo ws sh sc n S.2.2.2.1.length) S.2.1 vs ∧ ck_mo SG ws sh sc n S.2.2.2.1.length S.2.2.1 ∧ ck_eo S.2.2.2.1 n ∧ ck_ro S.2.2.2.2.1 n S.2.2.2.1.length
theorem ck_mo.up {SG : List Nat} {ws : va_W} {sh : List Nat} {sc : ck_sc} {n n' : ck_N} {N N' : Nat} {mem : List ck_M} (hn : ∀ k, k < N → n' k = n k) (hN : N ≤ N') (h : ck_mo SG ws sh sc n N mem) : ck_mo SG ws sh sc n' N' mem := by
  intro x hx
  rcases h x hx with ⟨h0, h3, ⟨h2, h1, b, L, xs, h4, h5⟩ | ⟨h2, h4⟩⟩ | ⟨h0, h1, q, a, o, v, h2, h3, h4, h5⟩ | ⟨h0, h1, h2, h3, h4, h5, q, a, cA, len, f, h6, h7, h8⟩
  · exact Or.inl ⟨h0, Nat.lt_of_lt_of_le h3 hN, Or.inl ⟨h2, Nat.lt_of_lt_of_le h1 hN, b, L, xs, h4, by rw [hn _ h1, hn _ h3]; exact h5⟩⟩
  · exact Or.inl ⟨h0, Nat.lt_of_lt_of_le h3 hN, Or.inr ⟨h2, by rw [hn _ h3]; exact h4⟩⟩
  · exact Or.inr (Or.inl ⟨h0, h1, q, a, o, v, h2, h3, h4, h5.up hn hN⟩)
  · refine Or.inr (Or.inr ⟨h0, h1, h2, h3, Nat.lt_of_lt_of_le h4 hN, fun j hj => Nat.lt_of_lt_of_le (h5 j hj) hN, q, a, cA, len, f, h6, h7, ?_⟩)
    rw [hn _ h4, List.map_congr_left (fun j hj => by rw [hn _ (h5 j hj)])]
    exact h8
theorem ck_mo.mv1 {SG : List Nat} {Wr : List (Nat × Nat)} {ws ws' : va_W} {sh sh' : List Nat} {n : ck_N} {N : Nat} {x : ck_M} (hx : ck_ex Wr ws sh ws' sh') (hw : (x.1, x.2.1) ∉ Wr)
    (h : 20 ≤ x.2.2.1 ∧ x.1 ≠ 0 ∧ x.1 ∈ SG ∧ x.2.1 = 0 ∧ x.2.2.2.1 < N ∧ (∀ j ∈ x.2.2.2.2, j < N) ∧ ∃ (q a : Nat) (cA : ClassId) (len : Nat) (f : Nat → Int32), sh[q]? = some x.1 ∧ ws[q]? = some (a, .inl (cA, len, .inl f)) ∧ ck_nt x.2.2.1 f (n x.2.2.2.1).1 (x.2.2.2.2.map (fun j => (n j).1))) :
    20 ≤ x.2.2.1 ∧ x.1 ≠ 0 ∧ x.1 ∈ SG ∧ x.2.1 = 0 ∧ x.2.2.2.1 < N ∧ (∀ j ∈ x.2.2.2.2, j < N) ∧ ∃ (q a : Nat) (cA : ClassId) (len : Nat) (f : Nat → Int32), sh'[q]? = some x.1 ∧ ws'[q]? = some (a, .inl (cA, len, .inl f)) ∧ ck_nt x.2.2.1 f (n x.2.2.2.1).1 (x.2.2.2.2.map (fun j => (n j).1)) := by
  obtain ⟨h0, h1, h2, h3, h4, h5, q, a, cA, len, f, h6, h7, h8⟩ := h
  obtain ⟨e', x1, x2⟩ := hx.2 q a _ x.1 h7 h6
  refine ⟨h0, h1, h2, h3, h4, h5, q, a, cA, len, f, hx.1 _ _ h6, ?_, h8⟩
  cases e' with
  | inr _ => exact x2.elim
  | inl y =>
    rw [h3] at hw
    rw [x2 hw] at x1
    exact x1
theorem ck_ro.up {R : List ck_R} {n n' : ck_N} {N N' : Nat} (hn : ∀ k, k < N → n' k = n k) (hN : N ≤ N') (h : ck_ro R n N) : ck_ro R n' N' := by
  intro r hr
  obtain ⟨h1, h2, h3⟩ := h r hr
  exact ⟨Nat.lt_of_lt_of_le h1 hN, Nat.lt_of_lt_of_le h2 hN, by rw [hn _ h1, hn _ h2]; exact h3⟩
theorem ck_lo.up {ws : va_W} {sh : List Nat} {sc : ck_sc} {n n' : ck_N} {N N' nL : Nat} {loc : List (Nat × ck_V)} {ls : Array Slot} (hn : ∀ k, k < N → n' k = n k) (hN : N ≤ N') (h : ck_lo ws sh sc n N nL loc ls) : ck_lo ws sh sc n' N' nL loc ls := by
  obtain ⟨lv, h1, h2⟩ := h
  exact ⟨lv, h1, h2.imp fun a b hab => ⟨hab.1, hab.2.up hn hN⟩⟩
theorem ck_lo.mv {Wr : List (Nat × Nat)} {ws ws' : va_W} {sh sh' : List Nat} (hx : ck_ex Wr ws sh ws' sh') {sc : ck_sc} {n : ck_N} {N nL : Nat} {loc : List (Nat × ck_V)} {ls : Array Slot} (h : ck_lo ws sh sc n N nL loc ls) : ck_lo ws' sh' sc n N nL loc ls := by
  obtain ⟨lv, h1, h2⟩ := h
  exact ⟨lv, h1, h2.imp fun a b hab => ⟨hab.1, hab.2.mv hx⟩⟩
theorem ck_eo.add {E : ck_E} {n : ck_N} {x : Int × Value} {iv : Int × Int} (h : ck_eo E n) (hx : iv.1 ≤ iv.2 → iv.1 ≤ x.1 ∧ x.1 ≤ iv.2) : ck_eo (E ++ [iv]) (ck_nx n E.length x) := by
  intro k y hy hle
  rcases Nat.lt_trichotomy k E.length with hk | hk | hk
  · rw [List.getElem?_append_left hk] at hy
    rw [ck_nx_lt k hk]
    exact h k y hy hle
  · subst hk
    rw [List.getElem?_append_right (Nat.le_refl _), Nat.sub_self, List.getElem?_cons_zero, Option.some.injEq] at hy
    subst hy
    rw [ck_nx_eq]
    exact hx hle
  · rw [List.getElem?_append_right (Nat.le_of_lt hk)] at hy
    have : ([iv] : List (Int × Int))[k - E.length]? = none := by
      rw [List.getElem?_eq_none]
      simp
      omega
    rw [this] at hy
    cases hy
theorem ck_so.ss {nL : Nat} {SG : List Nat} {S : ck_S} {n : ck_N} {ws : va_W} {sh : List Nat} {sc : ck_sc} {ls : Array Slot} {vs vs' : List Value} {st : List ck_V} (h : ck_so nL SG S n ws sh sc ls vs) (hs : ck_two (ck_vo ws sh sc n S.2.2.2.1.length) st vs') : ck_so nL SG (ck_ss S st) n ws sh sc ls vs' :=
  ⟨h.1, h.2.1, hs, h.2.2.2⟩
theorem ck_so.new {nL : Nat} {SG : List Nat} {S : ck_S} {n : ck_N} {ws : va_W} {sh : List Nat} {sc : ck_sc} {ls : Array Slot} {vs vs' : List Value} {st : List ck_V} (h : ck_so nL SG S n ws sh sc ls vs) (hs : ck_two (ck_vo ws sh sc n S.2.2.2.1.length) st vs')
    {tag : Nat} {ts : List Nat} {iv : Int × Int} {rs : List ck_R} {x : Int × Value} {v : Value} (hv : ck_vo ws sh sc (ck_nx n S.2.2.2.1.length x) (S.2.2.2.1.length + 1) (tag, S.2.2.2.1.length, ts) v)
    (hx : iv.1 ≤ iv.2 → iv.1 ≤ x.1 ∧ x.1 ≤ iv.2) (hr : ck_ro rs (ck_nx n S.2.2.2.1.length x) (S.2.2.2.1.length + 1)) : ck_so nL SG (ck_new S st tag ts iv rs) (ck_nx n S.2.2.2.1.length x) ws sh sc ls (v :: vs') := by
  obtain ⟨⟨h0, h00⟩, h1, h2, h3, h4, h5⟩ := h
  have hl : (S.2.2.2.1 ++ [iv]).length = S.2.2.2.1.length + 1 := by simp
  refine ⟨⟨?_, ?_⟩, ?_, ⟨?_, ?_⟩, ?_, ?_, ?_⟩
  · show 0 < (S.2.2.2.1 ++ [iv]).length
    omega
  · rw [ck_nx_lt 0 h0]; exact h00
  · show ck_lo ws sh sc _ (S.2.2.2.1 ++ [iv]).length nL S.1 ls
    rw [hl]
    exact h1.up ck_nx_lt (Nat.le_succ _)
  · show ck_vo ws sh sc _ (S.2.2.2.1 ++ [iv]).length _ v
    rw [hl]
    exact hv
  · show ck_two (ck_vo ws sh sc _ (S.2.2.2.1 ++ [iv]).length) st vs'
    rw [hl]
    exact hs.imp fun a b hab => hab.up ck_nx_lt (Nat.le_succ _)
  · show ck_mo SG ws sh sc _ (S.2.2.2.1 ++ [iv]).length S.2.2.1
    rw [hl]
    exact h3.up ck_nx_lt (Nat.le_succ _)
  · exact h4.add hx
  · show ck_ro (rs ++ S.2.2.2.2.1) _ (S.2.2.2.1 ++ [iv]).length
    rw [hl]
    intro r hq
    rcases List.mem_append.mp hq with q | q
    · exact hr r q
    · exact h5.up ck_nx_lt (Nat.le_succ _) r q
/-- learning -/
theorem ck_wle_ok {nL : Nat} {SG : List Nat} {S : ck_S} {n : ck_N} {ws : va_W} {sh : List Nat} {sc : ck_sc} {ls : Array Slot} {vs : List Value} (h : ck_so nL SG S n ws sh sc ls vs) {a b : Nat} {c : Int} {k : ck_S → Bool} (hk : ck_wle a b c S k = true) (hab : (n a).1 ≤ (n b).1 + c) :
    ∃ S' : ck_S, k S' = true ∧ ck_so nL SG S' n ws sh sc ls vs ∧ S'.1 = S.1 ∧ S'.2.1 = S.2.1 ∧ S'.2.2.1 = S.2.2.1 ∧ S'.2.2.2.1.length = S.2.2.2.1.length ∧ S'.2.2.2.2.2 = S.2.2.2.2.2 := by
  obtain ⟨h0, h1, h2, h3, h4, h5⟩ := h
  unfold ck_wle at hk
  split at hk
  · rename_i x y hx hy
    split at hk
    · rename_i hxy
      obtain ⟨q1, q2, q3, q4⟩ := ck_le_ok h4 h5 hab
      dsimp only at hk
      rw [q3 x hx hxy.1, q4 y hy hxy.2, Bool.false_or, Bool.false_or] at hk
      have hl := ck_le_len a b c S.2.2.2.1 S.2.2.2.2.1
      refine ⟨_, hk, ⟨?_, ?_, ?_, ?_, q1, ?_⟩, rfl, rfl, rfl, hl, rfl⟩
      · dsimp only; rw [hl]; exact h0
      · dsimp only; rw [hl]; exact h1
      · dsimp only; rw [hl]; exact h2
      · dsimp only; rw [hl]; exact h3
      · dsimp only; rw [hl]; exact q2
    · cases hk
  · cases hk
/-- S' is S with more known of the numbers -/
def ck_kn (S S' : ck_S) : Prop := S'.1 = S.1 ∧ S'.2.1 = S.2.1 ∧ S'.2.2.1 = S.2.2.1 ∧ S'.2.2.2.1.length = S.2.2.2.1.length ∧ S'.2.2.2.2.2 = S.2.2.2.2.2
theorem ck_kn.tr {S S1 S2 : ck_S} (h : ck_kn S S1) (h2 : ck_kn S1 S2) : ck_kn S S2 := ⟨h2.1.trans h.1, h2.2.1.trans h.2.1, h2.2.2.1.trans h.2.2.1, h2.2.2.2.1.trans h.2.2.2.1, h2.2.2.2.2.trans h.2.2.2.2⟩
theorem ck_weq_ok {nL : Nat} {SG : List Nat} {S : ck_S} {n : ck_N} {ws : va_W} {sh : List Nat} {sc : ck_sc} {ls : Array Slot} {vs : List Value} (h : ck_so nL SG S n ws sh sc ls vs) {a b : Nat} {k : ck_S → Bool} (hk : ck_weq a b S k = true) (hab : (n a).1 = (n b).1) :
    ∃ S' : ck_S, k S' = true ∧ ck_so nL SG S' n ws sh sc ls vs ∧ ck_kn S S' := by
  obtain ⟨S1, k1, o1, e1⟩ := ck_wle_ok h hk (by omega)
  obtain ⟨S2, k2, o2, e2⟩ := ck_wle_ok o1 k1 (by omega)
  exact ⟨S2, k2, o2, ck_kn.tr e1 e2⟩
theorem ck_wne_ok {nL : Nat} {SG : List Nat} {S : ck_S} {n : ck_N} {ws : va_W} {sh : List Nat} {sc : ck_sc} {ls : Array Slot} {vs : List Value} (h : ck_so nL SG S n ws sh sc ls vs) {F a b : Nat} {k : ck_S → Bool} (hk : ck_wne F a b S k = true) (hab : ¬ (n a).1 = (n b).1) :
    ∃ S' : ck_S, k S' = true ∧ ck_so nL SG S' n ws sh sc ls vs ∧ ck_kn S S' := by
  unfold ck_wne at hk
  split at hk
  · rename_i he
    have := ck_ent_ok h.2.2.2.2.1 h.2.2.2.2.2 F a b 0 he
    rw [Bool.or_eq_true] at hk
    rcases hk with hk | hk
    · have h2 := ck_ent_ok h.2.2.2.2.1 h.2.2.2.2.2 F b a 0 hk
      exact absurd (Int.le_antisymm (by omega) (by omega)) hab
    · exact ck_wle_ok h hk (by omega)
  · split at hk
    · rename_i he
      have := ck_ent_ok h.2.2.2.2.1 h.2.2.2.2.2 F b a 0 he
      exact ck_wle_ok h hk (by omega)
    · exact ⟨S, hk, h, rfl, rfl, rfl, rfl, rfl⟩
def ck_cm (cd : ClassFile.Cond) (x y : Int) : Prop := match cd with
  | .eq => x = y
  | .ne => ¬ x = y
  | .lt => x < y
  | .ge => y ≤ x
  | .gt => y < x
  | .le => x ≤ y
theorem ck_wc_ok {nL : Nat} {SG : List Nat} {S : ck_S} {n : ck_N} {ws : va_W} {sh : List Nat} {sc : ck_sc} {ls : Array Slot} {vs : List Value} (h : ck_so nL SG S n ws sh sc ls vs) {F a b : Nat} {cd : ClassFile.Cond} {kt kf : ck_S → Bool} (hk : ck_wc F cd a b S kt kf = true) :
    (ck_cm cd (n a).1 (n b).1 → ∃ S' : ck_S, kt S' = true ∧ ck_so nL SG S' n ws sh sc ls vs ∧ ck_kn S S') ∧ (¬ ck_cm cd (n a).1 (n b).1 → ∃ S' : ck_S, kf S' = true ∧ ck_so nL SG S' n ws sh sc ls vs ∧ ck_kn S S') := by
  unfold ck_wc at hk
  cases cd <;> (rw [Bool.and_eq_true] at hk; obtain ⟨k1, k2⟩ := hk; refine ⟨fun q => ?_, fun q => ?_⟩ <;> simp only [ck_cm] at q)
  · exact ck_weq_ok h k1 q
  · exact ck_wne_ok h k2 q
  · exact ck_wne_ok h k1 q
  · exact ck_weq_ok h k2 (by omega)
  · exact ck_wle_ok h k1 (by omega)
  · exact ck_wle_ok h k2 (by omega)
  · exact ck_wle_ok h k1 (by omega)
  · exact ck_wle_ok h k2 (by omega)
  · exact ck_wle_ok h k1 (by omega)
  · exact ck_wle_ok h k2 (by omega)
  · exact ck_wle_ok h k1 (by omega)
  · exact ck_wle_ok h k2 (by omega)
/-- looking up, storing -/
theorem ck_look_ok {ws : va_W} {sh : List Nat} {sc : ck_sc} {n : ck_N} {N nL : Nat} {loc : List (Nat × ck_V)} {ls : Array Slot} (h : ck_lo ws sh sc n N nL loc ls) {i : Nat} {v : ck_V} (hv : ck_look loc i = some v) : ∃ x, ls[i]? = some (.val x) ∧ ck_vo ws sh sc n N v x := by
  obtain ⟨lv, h1, h2⟩ := h
  unfold ck_look at hv
  cases hf : loc.find? (fun q => q.1 == i) with
  | none => rw [hf] at hv; cases hv
  | some q =>
    rw [hf] at hv
    have e : q.2 = v := Option.some.inj hv
    subst e
    have hm := List.mem_of_find?_eq_some hf
    have hp := List.find?_some hf
    have hi : q.1 = i := eq_of_beq hp
    obtain ⟨y, hy, e1, e2⟩ := ck_two.mem h2 hm
    exact ⟨y.2, by rw [← hi, e1]; exact h1.2.2 y hy, e2⟩
theorem ck_cat_ok {ws : va_W} {sh : List Nat} {sc : ck_sc} {n : ck_N} {N : Nat} {av : ck_V} {v : Value} (h : ck_vo ws sh sc n N av v) : v.category = ck_cat av := h.cat
theorem ck_flt1 {ws : va_W} {sh : List Nat} {sc : ck_sc} {n : ck_N} {N : Nat} {i : Nat} (x : Nat × ck_V) (y : Nat × Value) (h : x.1 = y.1 ∧ ck_vo ws sh sc n N x.2 y.2) : (!(x.1 == i) && !(x.1 + 1 == i && ck_cat x.2 == 2)) = (!(y.1 == i) && !(y.1 + 1 == i && y.2.category == 2)) := by
  rw [h.1, ck_cat_ok h.2]
theorem ck_flt2 {ws : va_W} {sh : List Nat} {sc : ck_sc} {n : ck_N} {N : Nat} {i : Nat} (x : Nat × ck_V) (y : Nat × Value) (h : x.1 = y.1 ∧ ck_vo ws sh sc n N x.2 y.2) : (!(x.1 == i) && (!(x.1 == i + 1) && !(x.1 + 1 == i && ck_cat x.2 == 2))) = (!(y.1 == i) && (!(y.1 == i + 1) && !(y.1 + 1 == i && y.2.category == 2))) := by
  rw [h.1, ck_cat_ok h.2]
end
