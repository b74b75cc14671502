noncomputable section
/-! the run of a method: from its entry, and from each place with a picture, by ranks that fall -/
abbrev ck_cd : Type := List (Nat × Instr × Nat)
def ck_fnd (code : ck_cd) (pc : Nat) : Option (Instr × Nat × ck_cd) := match code.dropWhile (fun y => !(y.1 == pc)) with
  | y :: t => if y.1 = pc then some (y.2.1, y.2.2, t) else none
  | [] => none
def ck_sfx (code suf : ck_cd) (pc : Nat) : Option (Instr × Nat × ck_cd) := match suf with
  | y :: t => if y.1 = pc then some (y.2.1, y.2.2, t) else ck_fnd code pc
  | [] => ck_fnd code pc
theorem ck_fnd_ok {code : ck_cd} {pc : Nat} {i : Instr} {l : Nat} {t : ck_cd} (h : ck_fnd code pc = some (i, l, t)) : (pc, i, l) ∈ code ∧ ∀ x ∈ t, x ∈ code := by
  unfold ck_fnd at h
  split at h
  · rename_i y u hy
    split at h
    · rename_i hp
      have e := Option.some.inj h
      have hs : ∀ x ∈ y :: u, x ∈ code := fun x hx => by
        rw [← hy] at hx
        exact (List.dropWhile_sublist _).subset hx
      cases e
      refine ⟨?_, fun x hx => hs x (List.mem_cons_of_mem _ hx)⟩
      rw [← hp]
      exact hs y List.mem_cons_self
    · cases h
  · cases h
theorem ck_sfx_ok {code suf : ck_cd} {pc : Nat} {i : Instr} {l : Nat} {t : ck_cd} (h : ck_sfx code suf pc = some (i, l, t)) (hs : ∀ x ∈ suf, x ∈ code) : (pc, i, l) ∈ code ∧ ∀ x ∈ t, x ∈ code := by
  unfold ck_sfx at h
  split at h
  · rename_i y u
    split at h
    · rename_i hp
      have e := Option.some.inj h
      cases e
      refine ⟨?_, fun x hx => hs x (List.mem_cons_of_mem _ hx)⟩
      rw [← hp]
      exact hs y List.mem_cons_self
    · exact ck_fnd_ok h
  · exact ck_fnd_ok h
/-- a rank's part, of the number z -/
def ck_rv (a : Nat × Nat × Int) (z : Int) : Nat := match a.1 with
  | 0 => a.2.2.toNat
  | 1 => (a.2.2 - z).toNat
  | _ => (z - a.2.2).toNat
def ck_k (K : ck_K) (j : Nat) : Nat × Nat × Int := K.getD j (0, 0, 0)
def ck_rk (K : ck_K) (z : Nat → Int) : Nat × Nat × Nat := (ck_rv (ck_k K 0) (z 0), ck_rv (ck_k K 1) (z 1), ck_rv (ck_k K 2) (z 2))
def ck_lx (a b : Nat × Nat × Nat) : Prop := a.1 < b.1 ∨ (a.1 = b.1 ∧ (a.2.1 < b.2.1 ∨ (a.2.1 = b.2.1 ∧ a.2.2 < b.2.2)))
theorem ck_lx_ind {P : Nat × Nat × Nat → Prop} (h : ∀ a, (∀ b, ck_lx b a → P b) → P a) : ∀ a, P a := by
  have key : ∀ x y z : Nat, P (x, y, z) := by
    intro x
    induction x using Nat.strongRecOn with
    | ind x ihx =>
      intro y
      induction y using Nat.strongRecOn with
      | ind y ihy =>
        intro z
        induction z using Nat.strongRecOn with
        | ind z ihz =>
          refine h _ fun b hb => ?_
          obtain ⟨b1, b2, b3⟩ := b
          rcases hb with hb | ⟨e1, hb | ⟨e2, hb⟩⟩
          · exact ihx b1 hb b2 b3
          · dsimp only at e1 hb
            subst e1
            exact ihy b2 hb b3
          · dsimp only at e1 e2 hb
            subst e1
            subst e2
            exact ihz b3 hb
  exact fun a => key a.1 a.2.1 a.2.2
def ck_bs (S : ck_S) (j : Nat) : Option Nat := (S.2.2.1.find? (fun m => m.1 == 0 && (m.2.1 == j && m.2.2.1 == 8))).map (fun m => m.2.2.2.1)
/-- the part's number is at least d less -/
def ck_rc (F : Nat) (S : ck_S) (g : List Nat) (j : Nat) (a b : Nat × Nat × Int) (d : Int) : Bool :=
  if a.1 = 0 ∧ b.1 = 0 then decide (b.2.2 + d ≤ a.2.2) else
  if a.1 = 0 ∧ b.1 = 1 then (match g[b.2.1]? with
    | some y => ck_ent S.2.2.2.1 S.2.2.2.2.1 F 0 y (a.2.2 - d - b.2.2)
    | none => false) else
  if a.1 = 0 ∧ b.1 = 2 then (match g[b.2.1]? with
    | some y => ck_ent S.2.2.2.1 S.2.2.2.2.1 F y 0 (a.2.2 - d + b.2.2)
    | none => false) else
  if a.1 = 1 ∧ b.1 = 0 then (match ck_bs S j with
    | some x => ck_ent S.2.2.2.1 S.2.2.2.2.1 F x 0 (a.2.2 - d - b.2.2)
    | none => false) else
  if a.1 = 2 ∧ b.1 = 0 then (match ck_bs S j with
    | some x => ck_ent S.2.2.2.1 S.2.2.2.2.1 F 0 x (-a.2.2 - d - b.2.2)
    | none => false) else
  if a.1 = 1 ∧ b.1 = 1 then (match ck_bs S j, g[b.2.1]? with
    | some x, some y => ck_ent S.2.2.2.1 S.2.2.2.2.1 F x y (a.2.2 - d - b.2.2)
    | _, _ => false) else
  if a.1 = 2 ∧ b.1 = 2 then (match ck_bs S j, g[b.2.1]? with
    | some x, some y => ck_ent S.2.2.2.1 S.2.2.2.2.1 F y x (b.2.2 - a.2.2 - d)
    | _, _ => false) else false
def ck_rp (F : Nat) (S : ck_S) (j : Nat) (a : Nat × Nat × Int) : Bool :=
  if a.1 = 0 then decide (1 ≤ a.2.2) else match ck_bs S j with
    | some x => if a.1 = 1 then ck_ent S.2.2.2.1 S.2.2.2.2.1 F x 0 (a.2.2 - 1) else a.1 == 2 && ck_ent S.2.2.2.1 S.2.2.2.2.1 F 0 x (-a.2.2 - 1)
    | none => false
/-- the part falls -/
def ck_rl (F : Nat) (S : ck_S) (g : List Nat) (j : Nat) (a b : Nat × Nat × Int) : Bool := ck_rc F S g j a b 1 && ck_rp F S j a
/-- the part doesn't grow -/
def ck_re (F : Nat) (S : ck_S) (g : List Nat) (j : Nat) (a b : Nat × Nat × Int) : Bool := ck_rc F S g j a b 0
def ck_lex (F : Nat) (S : ck_S) (g : List Nat) (A B : ck_K) : Bool :=
  ck_rl F S g 0 (ck_k A 0) (ck_k B 0) || (ck_re F S g 0 (ck_k A 0) (ck_k B 0) && (ck_rl F S g 1 (ck_k A 1) (ck_k B 1) || (ck_re F S g 1 (ck_k A 1) (ck_k B 1) && ck_rl F S g 2 (ck_k A 2) (ck_k B 2))))
def ck_gl (loc : List (Nat × ck_V)) : List (Nat × ck_V) → Option (List ck_V)
  | [] => some []
  | x :: l => match ck_look loc x.1, ck_gl loc l with
    | some v, some r => some (v :: r)
    | _, _ => none
def ck_ab (nE : Nat) : List ck_M := (List.range nE).map (fun k => (0, 1000 + k, (8, k, [])))
def ck_hb (S : ck_S) (nE : Nat) : Bool := (ck_ab nE).all (fun x => S.2.2.1.contains x)
def ck_rb (K : ck_K) : List ck_M := [(0, 0, (8, (ck_k K 0).2.1, [])), (0, 1, (8, (ck_k K 1).2.1, [])), (0, 2, (8, (ck_k K 2).2.1, []))]
/-- S is as the picture says, and the rank has fallen -/
def ck_to (F nE : Nat) (cur : Option ck_K) (S : ck_S) (I : ck_I) : Bool := match ck_gl S.1 I.1.1 with
  | some vs => (match ck_mt F S (List.range nE) (vs ++ S.2.1) (I.1.1.map Prod.snd ++ I.1.2.1, I.1.2.2.1, I.1.2.2.2.1, I.1.2.2.2.2.1) with
    | some g => decide (g.length = I.1.2.2.2.1.length) && (ck_hb S nE && (decide (I.1.2.2.2.2.2 = S.2.2.2.2.2) && match cur with
      | some K => ck_lex F S g K I.2
      | none => true))
    | none => false)
  | none => false
/-- places with a step of their own, proved by hand: place, where it goes on, what it makes of a state -/
abbrev ck_spc : Type := List (Nat × Nat × (ck_S → Option (List ck_S)))
def ck_do (M : ck_Me) (kr : Nat → ck_S → Bool) (sp : ck_spc) (code suf : ck_cd) (k : ck_cd → ck_S → Nat → Bool) (S : ck_S) (pc : Nat) : Bool := match sp.find? (fun x => x.1 == pc) with
  | some x => (match x.2.2 S with
    | some L => L.all (fun S' => k code S' x.2.1)
    | none => false)
  | none => match ck_sfx code suf pc with
      | some y => ck_step M kr (fun S pc => k y.2.2 S pc) S pc y.1 y.2.1
      | none => false
def ck_go (M : ck_Me) (kr : Nat → ck_S → Bool) (sp : ck_spc) (code : ck_cd) (ivs : List (Nat × ck_I)) (nE : Nat) (cur : Option ck_K) : Nat → ck_cd → ck_S → Nat → Bool
  | 0, _, _, _ => false
  | f + 1, suf, S, pc => if ivs.any (fun x => x.1 == pc) then ivs.any (fun x => x.1 == pc && ck_to (mF M) nE cur S x.2) else ck_do M kr sp code suf (fun suf S pc => ck_go M kr sp code ivs nE cur f suf S pc) S pc
/-- the state that a picture gives to go on from -/
def ck_si (nE : Nat) (I : ck_I) : ck_S := (I.1.1, I.1.2.1, I.1.2.2.1 ++ (ck_ab nE ++ ck_rb I.2), I.1.2.2.2)
def ck_okI (nE : Nat) (I : ck_I) : Bool := I.1.2.2.1.all (fun m => !(m.1 == 0)) && (decide (nE ≤ I.1.2.2.2.1.length) && (ck_rb I.2).all (fun m => decide (m.2.2.2.1 < I.1.2.2.2.1.length)))
def ck_one (M : ck_Me) (kr : Nat → ck_S → Bool) (sp : ck_spc) (code : ck_cd) (ivs : List (Nat × ck_I)) (nE f : Nat) (x : Nat × ck_I) : Bool := ck_okI nE x.2 && ck_do M kr sp code code (fun suf S pc => ck_go M kr sp code ivs nE (some x.2.2) f suf S pc) (ck_si nE x.2) x.1
def ck_chk (M : ck_Me) (kr : Nat → ck_S → Bool) (sp : ck_spc) (code : ck_cd) (ivs : List (Nat × ck_I)) (nE f : Nat) (S : ck_S) : Bool := ck_go M kr sp code ivs nE none f code S 0 && ivs.all (ck_one M kr sp code ivs nE f)
theorem ck_vo.sc {ws : va_W} {sh : List Nat} {sc sc' : ck_sc} (h1 : sc'.1 = sc.1) (h2 : sc'.2.1 = sc.2.1) {n : ck_N} {N : Nat} {av : ck_V} {v : Value} (h : ck_vo ws sh sc n N av v) : ck_vo ws sh sc' n N av v := by
  unfold ck_vo at h ⊢
  rw [h1, h2]
  exact h
theorem ck_mo.sc {SG : List Nat} {ws : va_W} {sh : List Nat} {sc sc' : ck_sc} (h1 : sc'.1 = sc.1) (h2 : sc'.2.1 = sc.2.1) {n : ck_N} {N : Nat} {mem : List ck_M} (hz : ∀ x ∈ mem, x.1 ≠ 0) (h : ck_mo SG ws sh sc n N mem) : ck_mo SG ws sh sc' n N mem := by
  intro x hx
  rcases h x hx with ⟨z, -⟩ | ⟨h0, h3, q, a, o, v, h4, h5, h6, h7⟩ | hy
  · exact absurd z (hz x hx)
  · exact Or.inr (Or.inl ⟨h0, h3, q, a, o, v, h4, h5, h6, h7.sc h1 h2⟩)
  · exact Or.inr (Or.inr hy)
theorem ck_gl_ok {ws : va_W} {sh : List Nat} {sc : ck_sc} {n : ck_N} {N nL : Nat} {loc : List (Nat × ck_V)} {ls : Array Slot} (h : ck_lo ws sh sc n N nL loc ls) : ∀ {l : List (Nat × ck_V)} {r : List ck_V}, ck_gl loc l = some r → ∃ xs, ck_two (ck_vo ws sh sc n N) r xs ∧ xs.length = l.length ∧ ∀ (j : Nat) (x : Nat × ck_V) (v : Value), l[j]? = some x → xs[j]? = some v → ls[x.1]? = some (.val v)
  | [], r, hr => by
    have e := Option.some.inj hr
    subst e
    exact ⟨[], trivial, rfl, fun j x v hj => by simp at hj⟩
  | x :: l, r, hr => by
    rw [ck_gl] at hr
    split at hr
    · rename_i v r' hv hr'
      have e := Option.some.inj hr
      subst e
      obtain ⟨w, w1, w2⟩ := ck_look_ok h hv
      obtain ⟨xs, x1, x2, x3⟩ := ck_gl_ok h hr'
      refine ⟨w :: xs, ⟨w2, x1⟩, by simp [x2], fun j y u hj hu => ?_⟩
      cases j with
      | zero =>
        simp only [List.getElem?_cons_zero, Option.some.injEq] at hj hu
        subst hj
        subst hu
        exact w1
      | succ j =>
        rw [List.getElem?_cons_succ] at hj hu
        exact x3 j y u hj hu
    · cases hr
theorem ck_two_split {α β : Type} {P : α → β → Prop} : ∀ {l l2 : List α} {r r2 : List β}, ck_two P (l ++ l2) (r ++ r2) → l.length = r.length → ck_two P l r ∧ ck_two P l2 r2
  | [], _, [], _, h, _ => ⟨trivial, h⟩
  | _ :: _, _, _ :: _, _, h, e => by
    obtain ⟨a, b⟩ := ck_two_split h.2 (Nat.succ.inj e)
    exact ⟨⟨h.1, a⟩, b⟩
  | [], _, _ :: _, _, _, e => by cases e
  | _ :: _, _, [], _, _, e => by cases e
theorem ck_two_zip {P : ck_V → Value → Prop} : ∀ {l : List (Nat × ck_V)} {xs : List Value}, ck_two P (l.map Prod.snd) xs → ck_two (fun (x : Nat × ck_V) (y : Nat × Value) => x.1 = y.1 ∧ P x.2 y.2) l ((l.map Prod.fst).zip xs)
  | [], [], _ => trivial
  | _ :: _, _ :: _, h => ⟨⟨rfl, h.1⟩, ck_two_zip h.2⟩
  | [], _ :: _, h => h.elim
  | _ :: _, [], h => h.elim
theorem ck_bs_ok {SG : List Nat} {ws : va_W} {sh : List Nat} {sc : ck_sc} {n : ck_N} {N : Nat} {S : ck_S} (h : ck_mo SG ws sh sc n N S.2.2.1) {j x : Nat} (hx : ck_bs S j = some x) : (n x).1 = sc.2.2 j := by
  unfold ck_bs at hx
  cases hf : S.2.2.1.find? (fun m => m.1 == 0 && (m.2.1 == j && m.2.2.1 == 8)) with
  | none => rw [hf] at hx; cases hx
  | some mm =>
    rw [hf] at hx
    have e : mm.2.2.2.1 = x := Option.some.inj hx
    have hm := List.mem_of_find?_eq_some hf
    have hp := List.find?_some hf
    simp only [Bool.and_eq_true, beq_iff_eq] at hp
    rcases h mm hm with ⟨-, -, ⟨z, -⟩ | ⟨-, z⟩⟩ | ⟨z, -⟩ | ⟨-, z, -⟩
    · rw [hp.2.2] at z; cases z
    · rw [← e, z, hp.2.1]
    · exact absurd hp.1 z
    · exact absurd hp.1 z
section
variable {SG : List Nat} {ws : va_W} {sh : List Nat} {sc : ck_sc} {n : ck_N} {nL : Nat} {S : ck_S} {ls : Array Slot} {vs : List Value} {F : Nat} {g : List Nat}
/-- the number of a part -/
def ck_ri0 (a : Nat × Nat × Int) (z : Int) : Int := match a.1 with
  | 0 => a.2.2
  | 1 => a.2.2 - z
  | _ => z - a.2.2
theorem ck_rv_eq (a : Nat × Nat × Int) (z : Int) : ck_rv a z = (ck_ri0 a z).toNat := by
  unfold ck_rv ck_ri0
  split <;> rfl
theorem ck_rc_ok (o : ck_so nL SG S n ws sh sc ls vs) {j : Nat} {a b : Nat × Nat × Int} {d : Int} (h : ck_rc F S g j a b d = true) : ck_ri0 b (ck_pl g n b.2.1).1 ≤ ck_ri0 a (sc.2.2 j) - d := by
  have hE := o.2.2.2.2.1
  have hR := o.2.2.2.2.2
  have hy : ∀ y, g[b.2.1]? = some y → (ck_pl g n b.2.1).1 = (n y).1 := fun y hy => by simp [ck_pl, List.getD_eq_getElem?_getD, hy]
  have hz := o.1.2
  unfold ck_rc at h
  unfold ck_ri0
  split at h
  · rename_i e
    rw [decide_eq_true_eq] at h
    rw [e.1, e.2]
    show b.2.2 ≤ a.2.2 - d
    omega
  · split at h
    · rename_i e
      split at h
      · rename_i y hyy
        have p1 := ck_ent_ok hE hR F _ _ _ h
        rw [e.1, e.2, hy y hyy]
        show b.2.2 - (n y).1 ≤ a.2.2 - d
        omega
      · cases h
    · split at h
      · rename_i e
        split at h
        · rename_i y hyy
          have p1 := ck_ent_ok hE hR F _ _ _ h
          rw [e.1, e.2, hy y hyy]
          show (n y).1 - b.2.2 ≤ a.2.2 - d
          omega
        · cases h
      · split at h
        · rename_i e
          split at h
          · rename_i x hx
            have p1 := ck_ent_ok hE hR F _ _ _ h
            rw [ck_bs_ok o.2.2.2.1 hx] at p1
            rw [e.1, e.2]
            show b.2.2 ≤ a.2.2 - sc.2.2 j - d
            omega
          · cases h
        · split at h
          · rename_i e
            split at h
            · rename_i x hx
              have p1 := ck_ent_ok hE hR F _ _ _ h
              rw [ck_bs_ok o.2.2.2.1 hx] at p1
              rw [e.1, e.2]
              show b.2.2 ≤ sc.2.2 j - a.2.2 - d
              omega
            · cases h
          · split at h
            · rename_i e
              split at h
              · rename_i x y hx hyy
                have p1 := ck_ent_ok hE hR F _ _ _ h
                rw [ck_bs_ok o.2.2.2.1 hx] at p1
                rw [e.1, e.2, hy y hyy]
                show b.2.2 - (n y).1 ≤ a.2.2 - sc.2.2 j - d
                omega
              · cases h
            · split at h
              · rename_i e
                split at h
                · rename_i x y hx hyy
                  have p1 := ck_ent_ok hE hR F _ _ _ h
                  rw [ck_bs_ok o.2.2.2.1 hx] at p1
                  rw [e.1, e.2, hy y hyy]
                  show (n y).1 - b.2.2 ≤ sc.2.2 j - a.2.2 - d
                  omega
                · cases h
              · cases h
theorem ck_rp_ok (o : ck_so nL SG S n ws sh sc ls vs) {j : Nat} {a : Nat × Nat × Int} (h : ck_rp F S j a = true) : 1 ≤ ck_ri0 a (sc.2.2 j) := by
  have hE := o.2.2.2.2.1
  have hR := o.2.2.2.2.2
  have hz := o.1.2
  unfold ck_rp at h
  unfold ck_ri0
  split at h
  · rename_i e
    rw [decide_eq_true_eq] at h
    rw [e]
    exact h
  · split at h
    · rename_i x hx
      split at h
      · rename_i e
        have p1 := ck_ent_ok hE hR F _ _ _ h
        rw [ck_bs_ok o.2.2.2.1 hx] at p1
        rw [e]
        show 1 ≤ a.2.2 - sc.2.2 j
        omega
      · rw [Bool.and_eq_true] at h
        have p1 := ck_ent_ok hE hR F _ _ _ h.2
        rw [ck_bs_ok o.2.2.2.1 hx] at p1
        rw [eq_of_beq h.1]
        show 1 ≤ sc.2.2 j - a.2.2
        omega
    · cases h
theorem ck_rl_ok (o : ck_so nL SG S n ws sh sc ls vs) {j : Nat} {a b : Nat × Nat × Int} (h : ck_rl F S g j a b = true) : ck_rv b (ck_pl g n b.2.1).1 < ck_rv a (sc.2.2 j) := by
  unfold ck_rl at h
  rw [Bool.and_eq_true] at h
  have p1 := ck_rc_ok o h.1
  have p2 := ck_rp_ok o h.2
  rw [ck_rv_eq, ck_rv_eq]
  omega
theorem ck_re_ok (o : ck_so nL SG S n ws sh sc ls vs) {j : Nat} {a b : Nat × Nat × Int} (h : ck_re F S g j a b = true) : ck_rv b (ck_pl g n b.2.1).1 ≤ ck_rv a (sc.2.2 j) := by
  have p1 := ck_rc_ok o h
  rw [ck_rv_eq, ck_rv_eq]
  omega
theorem ck_lex_ok (o : ck_so nL SG S n ws sh sc ls vs) {A B : ck_K} (h : ck_lex F S g A B = true) : ck_lx (ck_rk B (fun j => (ck_pl g n (ck_k B j).2.1).1)) (ck_rk A sc.2.2) := by
  unfold ck_lex at h
  unfold ck_lx ck_rk
  rw [Bool.or_eq_true, Bool.and_eq_true, Bool.or_eq_true, Bool.and_eq_true] at h
  dsimp only
  rcases h with h | ⟨e1, h | ⟨e2, h⟩⟩
  · exact Or.inl (ck_rl_ok o h)
  · rcases Nat.lt_or_ge (ck_rv (ck_k B 0) (ck_pl g n (ck_k B 0).2.1).1) (ck_rv (ck_k A 0) (sc.2.2 0)) with q | q
    · exact Or.inl q
    · exact Or.inr ⟨Nat.le_antisymm (ck_re_ok o e1) q, Or.inl (ck_rl_ok o h)⟩
  · rcases Nat.lt_or_ge (ck_rv (ck_k B 0) (ck_pl g n (ck_k B 0).2.1).1) (ck_rv (ck_k A 0) (sc.2.2 0)) with q | q
    · exact Or.inl q
    · refine Or.inr ⟨Nat.le_antisymm (ck_re_ok o e1) q, ?_⟩
      rcases Nat.lt_or_ge (ck_rv (ck_k B 1) (ck_pl g n (ck_k B 1).2.1).1) (ck_rv (ck_k A 1) (sc.2.2 1)) with q2 | q2
      · exact Or.inl q2
      · exact Or.inr ⟨Nat.le_antisymm (ck_re_ok o e2) q2, ck_rl_ok o h⟩
end
end
