/-! merging: how far worlds are, pure -/
def ox (k w : Nat) : Nat := w ^^^ 2 ^ k
theorem ox_ox {k w : Nat} : ox k (ox k w) = w := by
  unfold ox
  rw [Nat.xor_assoc, Nat.xor_self, Nat.xor_zero]
theorem ox_lt {k w : Nat} (hk : k < 8) (hw : w < 256) : ox k w < 256 := Nat.xor_lt_two_pow (n := 8) hw (Nat.pow_lt_pow_right (by decide) hk)
theorem ox_b {k w i : Nat} : (ox k w).testBit i = (w.testBit i ^^ decide (k = i)) := by
  unfold ox
  rw [Nat.testBit_xor, Nat.testBit_two_pow]
theorem ox_bk {k w : Nat} : (ox k w).testBit k = !(w.testBit k) := by
  rw [ox_b, decide_eq_true (rfl : k = k), Bool.xor_true]
theorem ox_bi {k w i : Nat} (h : i ≠ k) : (ox k w).testBit i = w.testBit i := by
  rw [ox_b, decide_eq_false (fun e => h e.symm), Bool.xor_false]
theorem ox_ne {k w : Nat} : ox k w ≠ w := fun h => by
  have h1 : (ox k w).testBit k = w.testBit k := congrArg (fun x => x.testBit k) h
  rw [ox_bk] at h1
  cases hb : w.testBit k <;> rw [hb] at h1 <;> cases h1
/-- letter by letter -/
def spr (f : Nat → Nat) : Nat → Nat → Nat
  | 0, w => f w
  | k + 1, w => min (spr f k w) (spr f k (ox k w) + 1)
theorem spr_cap {f g : Nat → Nat} (h : ∀ w, g w = min (f w) 9) : ∀ k w, spr g k w = min (spr f k w) 9
  | 0, w => h w
  | k + 1, w => by
    show min (spr g k w) (spr g k (ox k w) + 1) = min (min (spr f k w) (spr f k (ox k w) + 1)) 9
    rw [spr_cap h k w, spr_cap h k (ox k w)]
    omega
theorem spr_ub {f : Nat → Nat} : ∀ k w, spr f k w ≤ f w
  | 0, _ => Nat.le_refl _
  | k + 1, w => by
    show min (spr f k w) (spr f k (ox k w) + 1) ≤ f w
    have := spr_ub (f := f) k w
    omega
theorem spr_le {f : Nat → Nat} {w0 : Nat} (h0 : f w0 = 0) : ∀ k w, (∀ i, k ≤ i → w.testBit i = w0.testBit i) → spr f k w ≤ k
  | 0, w, h => by
    have e : w = w0 := Nat.eq_of_testBit_eq (fun i => h i (Nat.zero_le i))
    show f w ≤ 0
    rw [e, h0]
    exact Nat.le_refl 0
  | k + 1, w, h => by
    show min (spr f k w) (spr f k (ox k w) + 1) ≤ k + 1
    by_cases c : w.testBit k = w0.testBit k
    · have h1 := spr_le h0 k w (fun i hi => by
        by_cases e : i = k
        · rw [e]
          exact c
        · exact h i (by omega))
      omega
    · have h1 := spr_le h0 k (ox k w) (fun i hi => by
        by_cases e : i = k
        · rw [e, ox_bk]
          cases hb : w.testBit k <;> cases hc : w0.testBit k <;> rw [hb, hc] at c <;> first | rfl | exact absurd rfl c
        · rw [ox_bi e]
          exact h i (by omega))
      omega
theorem tb_8 {w i : Nat} (hw : w < 256) (hi : 8 ≤ i) : w.testBit i = false := Nat.testBit_lt_two_pow (Nat.lt_of_lt_of_le (show w < 2 ^ 8 from hw) (Nat.pow_le_pow_right (by decide) hi))
/-- both sides' distances are the same once there is a world of the set -/
theorem spr_same {ok : Nat → Bool} {f g : Nat → Nat} (hf : ∀ w, f w = if ok w = true then 0 else 99) (hg : ∀ w, g w = if ok w = true then 0 else 9) {w0 : Nat} (hw0 : w0 < 256) (h0 : ok w0 = true) {w : Nat} (hw : w < 256) : spr g 8 w = spr f 8 w ∧ spr f 8 w ≤ 8 := by
  have h1 : f w0 = 0 := by rw [hf, if_pos h0]
  have h2 := spr_le h1 8 w (fun i hi => by rw [tb_8 hw hi, tb_8 hw0 hi])
  have h3 := spr_cap (f := f) (g := g) (fun x => by
    rw [hf, hg]
    by_cases c : ok x = true
    · rw [if_pos c, if_pos c]
      rfl
    · rw [if_neg c, if_neg c]
      rfl) 8 w
  exact ⟨by omega, h2⟩
/-! in place, a pair at a time -/
def rep (b : Bool) (k x : Nat) : Nat := if x.testBit k = b then x else ox k x
def dn (b : Bool) (k v x : Nat) : Bool := decide (rep b k x < v)
theorem rep_b {b : Bool} {k x : Nat} : (rep b k x).testBit k = b := by
  unfold rep
  by_cases c : x.testBit k = b
  · rw [if_pos c]
    exact c
  · rw [if_neg c, ox_bk]
    cases hx : x.testBit k <;> cases b <;> rw [hx] at c <;> first | rfl | exact absurd rfl c
theorem rep_lt {b : Bool} {k x : Nat} (hk : k < 8) (hx : x < 256) : rep b k x < 256 := by
  unfold rep
  split
  · exact hx
  · exact ox_lt hk hx
theorem rep_v {b : Bool} {k v : Nat} (hv : v.testBit k = b) : rep b k v = v := if_pos hv
theorem rep_o {b : Bool} {k v : Nat} (hv : v.testBit k = b) : rep b k (ox k v) = v := by
  unfold rep
  rw [if_neg (fun c => by
    rw [ox_bk, hv] at c
    cases b <;> cases c), ox_ox]
theorem rep_eq {b : Bool} {k v x : Nat} (h : rep b k x = v) : x = v ∨ x = ox k v := by
  unfold rep at h
  split at h
  · exact Or.inl h
  · exact Or.inr (by rw [← h, ox_ox])
/-- the state at a world in a letter's round -/
def sps (b : Bool) (f : Nat → Nat) (k v x : Nat) : Nat := if dn b k v x = true then spr f (k + 1) x else spr f k x
theorem sps_0 {b : Bool} {f : Nat → Nat} {k x : Nat} : sps b f k 0 x = spr f k x := if_neg (fun h => absurd (of_decide_eq_true h) (Nat.not_lt_zero _))
theorem sps_e {b : Bool} {f : Nat → Nat} {k x : Nat} (hk : k < 8) (hx : x < 256) : sps b f k 256 x = spr f (k + 1) x := if_pos (decide_eq_true (rep_lt hk hx))
theorem sps_n {b : Bool} {f : Nat → Nat} {k v x : Nat} (h : rep b k x ≠ v) : sps b f k (v + 1) x = sps b f k v x := by
  have e : dn b k (v + 1) x = dn b k v x := decide_eq_decide.mpr (by omega)
  unfold sps
  rw [e]
theorem sps_skip {b : Bool} {f : Nat → Nat} {k v x : Nat} (hv : ¬ v.testBit k = b) : sps b f k (v + 1) x = sps b f k v x := sps_n (fun e => hv (by rw [← e]; exact rep_b))
theorem sps_v {b : Bool} {f : Nat → Nat} {k v : Nat} (hv : v.testBit k = b) : sps b f k v v = spr f k v ∧ sps b f k v (ox k v) = spr f k (ox k v) ∧ sps b f k (v + 1) v = min (spr f k v) (spr f k (ox k v) + 1) ∧ sps b f k (v + 1) (ox k v) = min (spr f k (ox k v)) (spr f k v + 1) := by
  have d1 : ¬ dn b k v v = true := fun h => by
    have := of_decide_eq_true h
    rw [rep_v hv] at this
    omega
  have d2 : ¬ dn b k v (ox k v) = true := fun h => by
    have := of_decide_eq_true h
    rw [rep_o hv] at this
    omega
  have d3 : dn b k (v + 1) v = true := decide_eq_true (by rw [rep_v hv]; omega)
  have d4 : dn b k (v + 1) (ox k v) = true := decide_eq_true (by rw [rep_o hv]; omega)
  refine ⟨if_neg d1, if_neg d2, if_pos d3, ?_⟩
  unfold sps
  rw [if_pos d4]
  show min (spr f k (ox k v)) (spr f k (ox k (ox k v)) + 1) = _
  rw [ox_ox]
theorem sps_x {b : Bool} {f : Nat → Nat} {k v x : Nat} (h1 : x ≠ v) (h2 : x ≠ ox k v) : sps b f k (v + 1) x = sps b f k v x := sps_n (fun e => by
  rcases rep_eq e with h | h
  · exact h1 h
  · exact h2 h)
theorem sps_ub {b : Bool} {f : Nat → Nat} {k v x : Nat} : sps b f k v x ≤ f x := by
  unfold sps
  split
  · exact spr_ub _ _
  · exact spr_ub _ _
/-! how many are how far: in threes of bits, or sorted -/
def sm (r : Nat → Nat) : Nat → Nat
  | 0 => 0
  | n + 1 => sm r n + 8 ^ r n
theorem sm_eq {r r' : Nat → Nat} : ∀ {n : Nat}, (∀ k, k < n → r k = r' k) → sm r n = sm r' n
  | 0, _ => rfl
  | n + 1, h => by
    show sm r n + 8 ^ r n = sm r' n + 8 ^ r' n
    rw [sm_eq (fun k hk => h k (by omega)), h n (Nat.lt_succ_self n)]
theorem sm_le {r : Nat → Nat} {m : Nat} : ∀ {n : Nat}, (∀ k, k < n → r k ≤ m) → sm r n ≤ n * 8 ^ m
  | 0, _ => Nat.zero_le _
  | n + 1, h => by
    have h1 := sm_le (r := r) (m := m) (n := n) (fun k hk => h k (by omega))
    have h2 : 8 ^ r n ≤ 8 ^ m := Nat.pow_le_pow_right (by decide) (h n (Nat.lt_succ_self n))
    show sm r n + 8 ^ r n ≤ (n + 1) * 8 ^ m
    rw [Nat.succ_mul]
    omega
theorem sm_add {r : Nat → Nat} {k : Nat} : ∀ {j : Nat}, sm r (k + j) = sm r k + sm (fun i => r (k + i)) j
  | 0 => rfl
  | j + 1 => by
    show sm r (k + j) + 8 ^ r (k + j) = sm r k + (sm (fun i => r (k + i)) j + 8 ^ r (k + j))
    rw [sm_add (r := r) (k := k) (j := j)]
    omega
theorem sm_1 {r : Nat → Nat} : ∀ {n : Nat}, 0 < n → 8 ^ r 0 ≤ sm r n
  | 0, h => absurd h (Nat.lt_irrefl 0)
  | n + 1, _ => by
    show 8 ^ r 0 ≤ sm r n + 8 ^ r n
    cases n with
    | zero => exact Nat.le_add_left _ _
    | succ m =>
      exact Nat.le_trans (sm_1 (r := r) (n := m + 1) (Nat.succ_pos m)) (Nat.le_add_right _ _)
/-- at the first place where two sorted rows differ -/
theorem sm_lt {r r' : Nat → Nat} {n k : Nat} (hn : n ≤ 6) (hk : k < n) (he : ∀ j, j < k → r j = r' j) (hlt : r k < r' k) (hd : ∀ j, k ≤ j → j < n → r j ≤ r k) : sm r n < sm r' n := by
  obtain ⟨d, hd2⟩ : ∃ d, n = k + (d + 1) := ⟨n - k - 1, by omega⟩
  subst hd2
  rw [sm_add (r := r) (k := k) (j := d + 1), sm_add (r := r') (k := k) (j := d + 1), sm_eq he]
  have h1 : sm (fun i => r (k + i)) (d + 1) ≤ (d + 1) * 8 ^ r k := sm_le (fun i hi => hd (k + i) (Nat.le_add_right k i) (by omega))
  have h2 : 8 ^ r' k ≤ sm (fun i => r' (k + i)) (d + 1) := sm_1 (r := fun i => r' (k + i)) (Nat.succ_pos d)
  have h3 : 8 ^ (r k + 1) ≤ 8 ^ r' k := Nat.pow_le_pow_right (by decide) hlt
  have h4 : 8 ^ (r k + 1) = 8 ^ r k * 8 := Nat.pow_succ _ _
  have h5 : 0 < 8 ^ r k := Nat.pow_pos (by decide)
  have h6 : (d + 1) * 8 ^ r k ≤ 6 * 8 ^ r k := Nat.mul_le_mul_right _ (by omega)
  refine Nat.add_lt_add_left (Nat.lt_of_le_of_lt (Nat.le_trans h1 h6) (Nat.lt_of_lt_of_le ?_ (Nat.le_trans h3 h2))) _
  rw [h4]
  clear h1 h2 h3 h4 h6
  omega
/-- a number put where it belongs -/
def insF (r : Nat → Nat) (a f k : Nat) : Nat := if k < a then r k else if k = a then f else r (k - 1)
theorem sm_ins {r : Nat → Nat} {a f : Nat} : ∀ {n : Nat}, a ≤ n → sm (insF r a f) (n + 1) = sm r n + 8 ^ f
  | n, h => by
    by_cases e : a = n
    · subst e
      show sm (insF r a f) a + 8 ^ insF r a f a = _
      rw [sm_eq (r := insF r a f) (r' := r) (fun k hk => if_pos hk)]
      unfold insF
      rw [if_neg (Nat.lt_irrefl a), if_pos rfl]
    · cases n with
      | zero => omega
      | succ m =>
        have h1 := sm_ins (r := r) (a := a) (f := f) (n := m) (by omega)
        have e2 : insF r a f (m + 1) = r m := by
          unfold insF
          rw [if_neg (by omega), if_neg (by omega)]
          rfl
        show sm (insF r a f) (m + 1) + 8 ^ insF r a f (m + 1) = (sm r m + 8 ^ r m) + 8 ^ f
        rw [h1, e2]
        omega
theorem ins_d {r : Nat → Nat} {a f n : Nat} (hd : ∀ i j, i ≤ j → j < n → r j ≤ r i) (ha : a ≤ n) (h1 : a = 0 ∨ f ≤ r (a - 1)) (h2 : ∀ k, a < k → k ≤ n → r (k - 1) ≤ f) : ∀ i j, i ≤ j → j < n + 1 → insF r a f j ≤ insF r a f i := fun i j hij hj => by
  unfold insF
  by_cases c1 : j < a
  · rw [if_pos c1, if_pos (by omega)]
    exact hd i j hij (by omega)
  · rw [if_neg c1]
    by_cases c2 : j = a
    · rw [if_pos c2]
      by_cases c3 : i < a
      · rw [if_pos c3]
        rcases h1 with h1 | h1
        · omega
        · exact Nat.le_trans h1 (hd i (a - 1) (by omega) (by omega))
      · rw [if_neg c3, if_pos (by omega)]
        exact Nat.le_refl f
    · rw [if_neg c2]
      by_cases c3 : i < a
      · rw [if_pos c3]
        exact hd i (j - 1) (by omega) (by omega)
      · rw [if_neg c3]
        by_cases c4 : i = a
        · rw [if_pos c4]
          exact h2 j (by omega) (by omega)
        · rw [if_neg c4]
          exact hd (i - 1) (j - 1) (by omega) (by omega)
/-! what a world costs, by the three laws; which worlds cost least -/
def cst (law : Nat) (tk : Nat) (T D : Nat → Nat) : Nat → Nat
  | 0 => 0
  | u + 1 => if tk.testBit u = true then (if law = 0 then cst law tk T D u + T u * D u else if law = 1 then max (cst law tk T D u) (D u) else cst law tk T D u + 8 ^ D u) else cst law tk T D u
theorem p8_le {d : Nat} (h : d ≤ 8) : 8 ^ d ≤ 16777216 := Nat.pow_le_pow_right (n := 8) (by decide) h
theorem cst_le {law tk : Nat} {T D : Nat → Nat} (hT : ∀ u, u < 6 → T u ≤ 9) (hD : ∀ u, u < 6 → tk.testBit u = true → D u ≤ 8) : ∀ {u : Nat}, u ≤ 6 → cst law tk T D u ≤ u * 16777216
  | 0, _ => Nat.zero_le _
  | u + 1, h => by
    have h1 := cst_le (law := law) (tk := tk) hT hD (u := u) (by omega)
    show (if tk.testBit u = true then (if law = 0 then cst law tk T D u + T u * D u else if law = 1 then max (cst law tk T D u) (D u) else cst law tk T D u + 8 ^ D u) else cst law tk T D u) ≤ (u + 1) * 16777216
    by_cases c : tk.testBit u = true
    · have h2 := hD u (by omega) c
      have h3 : T u * D u ≤ 9 * 8 := Nat.mul_le_mul (hT u (by omega)) h2
      have h4 := p8_le h2
      rw [if_pos c]
      split
      · omega
      · split
        · omega
        · omega
    · rw [if_neg c]
      exact Nat.le_trans h1 (Nat.mul_le_mul_right _ (Nat.le_succ u))
theorem cst_eq {law tk : Nat} {T D T' D' : Nat → Nat} (hT : ∀ u, u < 6 → T u = T' u) (hD : ∀ u, u < 6 → tk.testBit u = true → D u = D' u) : ∀ {u : Nat}, u ≤ 6 → cst law tk T D u = cst law tk T' D' u
  | 0, _ => rfl
  | u + 1, h => by
    show (if tk.testBit u = true then (if law = 0 then cst law tk T D u + T u * D u else if law = 1 then max (cst law tk T D u) (D u) else cst law tk T D u + 8 ^ D u) else cst law tk T D u) = (if tk.testBit u = true then (if law = 0 then cst law tk T' D' u + T' u * D' u else if law = 1 then max (cst law tk T' D' u) (D' u) else cst law tk T' D' u + 8 ^ D' u) else cst law tk T' D' u)
    rw [cst_eq hT hD (u := u) (by omega)]
    by_cases c : tk.testBit u = true
    · rw [if_pos c, if_pos c, hT u (by omega), hD u (by omega) c]
    · rw [if_neg c, if_neg c]
/-- among the first w, none costs less than x -/
def mnB (C : Nat → Nat) (w x : Nat) : Bool := decide (x < w ∧ ∀ y, y < w → C x ≤ C y)
theorem mnB_t {C : Nat → Nat} {w x : Nat} : mnB C w x = true ↔ x < w ∧ ∀ y, y < w → C x ≤ C y := decide_eq_true_iff
theorem mnB_0 {C : Nat → Nat} {x : Nat} : mnB C 0 x = false := decide_eq_false (fun h => absurd h.1 (Nat.not_lt_zero x))
/-- the next world costs less than all before -/
theorem mnB_less {C : Nat → Nat} {w x : Nat} (h : ∀ y, y < w → C w < C y) : mnB C (w + 1) x = (decide (x = w) || false) := by
  rw [Bool.or_false]
  refine decide_eq_decide.mpr ⟨fun ⟨a, b⟩ => ?_, fun e => ?_⟩
  · refine Classical.byContradiction (fun c => ?_)
    have h1 := h x (by omega)
    have h2 := b w (Nat.lt_succ_self w)
    omega
  · subst e
    refine ⟨Nat.lt_succ_self x, fun y hy => ?_⟩
    by_cases e : y = x
    · rw [e]
      exact Nat.le_refl _
    · have := h y (by omega)
      omega
/-- as much as the least before -/
theorem mnB_same {C : Nat → Nat} {w x b : Nat} (hb : b < w) (hl : ∀ y, y < w → C b ≤ C y) (he : C w = C b) : mnB C (w + 1) x = (decide (x = w) || mnB C w x) := by
  rw [Bool.eq_iff_iff, Bool.or_eq_true, decide_eq_true_iff, mnB_t, mnB_t]
  constructor
  · rintro ⟨a, c⟩
    by_cases e : x = w
    · exact Or.inl e
    · exact Or.inr ⟨by omega, fun y hy => c y (by omega)⟩
  · rintro (e | ⟨a, c⟩)
    · subst e
      refine ⟨Nat.lt_succ_self x, fun y hy => ?_⟩
      by_cases e : y = x
      · rw [e]
        exact Nat.le_refl _
      · have := hl y (by omega)
        omega
    · refine ⟨by omega, fun y hy => ?_⟩
      by_cases e : y = w
      · have := c b hb
        rw [e]
        omega
      · exact c y (by omega)
/-- more -/
theorem mnB_more {C : Nat → Nat} {w x b : Nat} (hb : b < w) (he : C b < C w) : mnB C (w + 1) x = mnB C w x := by
  rw [Bool.eq_iff_iff, mnB_t, mnB_t]
  constructor
  · rintro ⟨a, c⟩
    have h1 := c b (by omega)
    have e : x ≠ w := fun e => by
      rw [e] at h1
      omega
    exact ⟨by omega, fun y hy => c y (by omega)⟩
  · rintro ⟨a, c⟩
    refine ⟨by omega, fun y hy => ?_⟩
    by_cases e : y = w
    · have := c b hb
      rw [e]
      omega
    · exact c y (by omega)
/-- the least so far -/
def lsP (C : Nat → Nat) (w b : Nat) : Prop := b < w ∧ ∀ y, y < w → C b ≤ C y
theorem lsP_less {C : Nat → Nat} {w : Nat} (h : ∀ y, y < w → C w < C y) : lsP C (w + 1) w := ⟨Nat.lt_succ_self w, fun y hy => by
  by_cases e : y = w
  · rw [e]
    exact Nat.le_refl _
  · have := h y (by omega)
    omega⟩
theorem lsP_keep {C : Nat → Nat} {w b : Nat} (h : lsP C w b) (he : C b ≤ C w) : lsP C (w + 1) b := ⟨by have := h.1; omega, fun y hy => by
  by_cases e : y = w
  · rw [e]
    exact he
  · exact h.2 y (by omega)⟩
