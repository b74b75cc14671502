noncomputable section
section
variable {p : Program} {l : Launch} {e : Env} {R : Room} {s : State} {m : MethodId} {args : Array Value} {below : List Frame} {meth : Method} {c : Code} {Q : State → Prop} {cc : ByteArray} {own : String} {D : va_G} {cl : List vw_C} {tys : List (ClassId × FieldType)} {M : ck_Me} {sc : ck_sc} {A : Nat → Prop} {ws0 : va_W} {sh0 : List Nat} {Fc : Nat → Nat × fR} {s0 : fS} {kr : Nat → ck_S → Bool} {sp : ck_spc} {code : ck_cd} {ivs : List (Nat × ck_I)} {nE : Nat} {n1 : ck_N}
/-- the goal at a place with a picture -/
def ck_pi (Fc : Nat → Nat × fR) (s0 : fS) (p : Program) (l : Launch) (e : Env) (R : Room) (s : State) (m : MethodId) (args : Array Value) (below : List Frame) (meth : Method) (c : Code) (Q : State → Prop) (D : va_G) (cl : List vw_C) (tys : List (ClassId × FieldType)) (M : ck_Me) (sc : ck_sc) (A : Nat → Prop) (ws0 : va_W) (sh0 : List Nat) (x : Nat × ck_I) (n : ck_N) : Prop :=
  ∀ (ws : va_W) (sh : List Nat) (H : Heap) (locs : List Loc) (ls : Array Slot) (vs : List Value), ck_so (mnL M) (mSG M) x.2.1 n ws sh sc ls vs → ck_wo tys (mTT M) (mSG M) ws sh → ck_ex (mWr M) ws0 sh0 ws sh → va_P D cl ws H → va_D A ws → va_S A s.heap H locs →
    WG (tM M Fc sc.1) s0 p l e R s m args below meth c ws sh H locs (ck_oc R M + x.2.1.2.2.2.2.2.1) (ck_os R M + x.2.1.2.2.2.2.2.2) Q (x.1, ls, vs)
theorem ck_rng_get {nE k : Nat} {t : List Nat} (hk : k < nE) : (List.range nE ++ t).getD k 0 = k := by
  rw [List.getD_eq_getElem?_getD, List.getElem?_append_left (by simp [hk])]
  simp [hk]
theorem ck_hb_ok {SG : List Nat} {ws : va_W} {sh : List Nat} {n : ck_N} {N : Nat} {S : ck_S} {b : Nat → Int} {sc : ck_sc} (h : ck_mo SG ws sh (sc.1, sc.2.1, b) n N S.2.2.1) (hh : ck_hb S nE = true) {k : Nat} (hk : k < nE) : (n k).1 = b (1000 + k) := by
  have h1 := List.all_eq_true.mp hh (0, 1000 + k, (8, k, [])) (List.mem_map.mpr ⟨k, List.mem_range.mpr hk, rfl⟩)
  have hm := List.contains_iff_mem.mp h1
  rcases h _ hm with ⟨-, -, ⟨z, -⟩ | ⟨-, z⟩⟩ | ⟨z, -⟩ | ⟨-, z, -⟩
  · cases z
  · exact z
  · exact absurd rfl z
  · exact absurd rfl z
theorem ck_to_ok (hnE : 0 < nE) {b : Nat → Int} (hb : ∀ k, k < nE → b (1000 + k) = (n1 k).1) {cur : Option ck_K} {S : ck_S} {x : Nat × ck_I} (hx : ck_okI nE x.2 = true) (h : ck_to (mF M) nE cur S x.2 = true)
    (hI : ∀ n, (∀ K, cur = some K → ck_lx (ck_rk x.2.2 (fun j => (n (ck_k x.2.2 j).2.1).1)) (ck_rk K b)) → (∀ k, k < nE → (n k).1 = (n1 k).1) → ck_pi Fc s0 p l e R s m args below meth c Q D cl tys M sc A ws0 sh0 x n) : ck_g Fc s0 p l e R s m args below meth c Q D cl tys M (sc.1, sc.2.1, b) A ws0 sh0 S x.1 := by
  intro n ws sh H locs ls vs o hw hx1 hP hD hS
  unfold ck_to at h
  split at h
  · rename_i rs hrs
    split at h
    · rename_i g hg
      simp only [Bool.and_eq_true, decide_eq_true_eq] at h
      obtain ⟨hgl, hhb, hcell, hcur⟩ := h
      obtain ⟨xs, x1, x2, x3⟩ := ck_gl_ok o.2.1 hrs
      obtain ⟨⟨t, rfl⟩, g2, g3, g4, g5, g6⟩ := ck_mt_ok o hg (ck_two.app x1 o.2.2.1) (fun s hs => by
        have := List.mem_range.mp hs
        have h1 := List.contains_iff_mem.mp (List.all_eq_true.mp hhb (0, 1000 + s, (8, s, [])) (List.mem_map.mpr ⟨s, hs, rfl⟩))
        rcases o.2.2.2.1 _ h1 with ⟨-, z, -⟩ | ⟨z, -⟩ | ⟨-, z, -⟩
        · exact z
        · exact absurd rfl z
        · exact absurd rfl z)
      obtain ⟨l1, l2⟩ := ck_two_split g3 (by rw [List.length_map, x2])
      have hn : ∀ k, k < nE → (ck_pl (List.range nE ++ t) n k) = n k := fun k hk => by
        unfold ck_pl
        rw [ck_rng_get hk]
      unfold ck_okI at hx
      simp only [Bool.and_eq_true, decide_eq_true_eq] at hx
      have hz : ∀ y ∈ x.2.1.2.2.1, y.1 ≠ 0 := fun y hy => by
        have := List.all_eq_true.mp hx.1 y hy
        rw [Bool.not_eq_true', beq_eq_false_iff_ne] at this
        exact this
      have hfin := hI (ck_pl (List.range nE ++ t) n) (fun K hK => by
          subst hK
          exact ck_lex_ok o hcur) (fun k hk => by rw [hn k hk, ck_hb_ok o.2.2.2.1 hhb hk]; exact hb k hk) ws sh H locs ls vs
        ⟨⟨by rw [← hgl]; simp; omega, by rw [hn 0 hnE]; exact o.1.2⟩, ?_, ?_, ?_, g5, by rw [← hgl]; exact g6⟩ hw hx1 hP hD hS
      · have ec1 : x.2.1.2.2.2.2.2.1 = S.2.2.2.2.2.1 := congrArg Prod.fst hcell
        have ec2 : x.2.1.2.2.2.2.2.2 = S.2.2.2.2.2.2 := congrArg Prod.snd hcell
        rw [ec1, ec2] at hfin
        exact hfin
      · rw [← hgl]
        obtain ⟨lv, y1, y2⟩ := id o.2.1
        refine ⟨_, ⟨y1.1, y1.2.1, fun q hq => ?_⟩, (ck_two_zip l1).imp fun a b hab => ⟨hab.1, hab.2.sc rfl rfl⟩⟩
        obtain ⟨j, hj⟩ := List.getElem?_of_mem hq
        rw [List.getElem?_zip_eq_some] at hj
        obtain ⟨j1, j2⟩ := hj
        rw [List.getElem?_map] at j1
        cases hxj : x.2.1.1[j]? with
        | none => rw [hxj] at j1; cases j1
        | some z =>
          rw [hxj] at j1
          have ez : z.1 = q.1 := Option.some.inj j1
          rw [← ez]
          exact x3 j z q.2 hxj j2
      · rw [← hgl]
        exact l2.imp fun a b hab => hab.sc rfl rfl
      · rw [← hgl]
        exact ck_mo.sc (sc := (sc.1, sc.2.1, b)) (sc' := sc) rfl rfl hz g4
    · cases h
  · cases h
theorem ck_do_ok (hnE : 0 < nE) (X : ck_cx p l e R s m args below meth c cc own D cl tys M sc A) (hfl : ∀ x ∈ mfl M, ck_hg s args own cl x) (hpl : ∀ x ∈ mpl M, ck_hp s args own cl (meth.name = "<init>") x) (hnl : ∀ x ∈ mnw M, ck_hn s args own cl (mTT M) x) (hkl : ∀ x ∈ mkl M, ck_hk s args own x) (hil : ∀ x ∈ mil M, ck_hi s args own cl x) (hxl : ∀ x ∈ mxl M, ck_hx s args own cl x) (hal : ∀ x ∈ mal M, ck_ha s tys cl x)
    (hgl : ∀ i ∈ mgl M, ck_hs s args own sc i) (hvl : ∀ (b : Nat → Int), ∀ x ∈ mvl M, ck_cs Fc s0 p l e R s m args below meth c Q cc D cl tys M (sc.1, sc.2.1, b) A x) (hcode : ∀ x ∈ code, decode cc x.1 = .ok (x.2.1, x.2.2))
    (hret : ∀ (b : Nat → Int), (∀ k, k < nE → b (1000 + k) = (n1 k).1) → ∀ (kd : Nat) (S : ck_S), kr kd S = true → ck_rst kd S → ∀ pc, decode cc pc = .ok (ck_ri kd, 1) → ck_g Fc s0 p l e R s m args below meth c Q D cl tys M (sc.1, sc.2.1, b) A ws0 sh0 S pc)
    (hsp : ∀ x ∈ sp, ∀ (S : ck_S) (L : List ck_S), x.2.2 S = some L → ∀ b : Nat → Int, (∀ k, k < nE → b (1000 + k) = (n1 k).1) → (∀ S' ∈ L, ck_g Fc s0 p l e R s m args below meth c Q D cl tys M (sc.1, sc.2.1, b) A ws0 sh0 S' x.2.1) → ck_g Fc s0 p l e R s m args below meth c Q D cl tys M (sc.1, sc.2.1, b) A ws0 sh0 S x.1)
    {b : Nat → Int} (hb : ∀ k, k < nE → b (1000 + k) = (n1 k).1) {k : ck_cd → ck_S → Nat → Bool} (hk : ∀ (suf : ck_cd) (S : ck_S) (pc : Nat), (∀ x ∈ suf, x ∈ code) → k suf S pc = true → ck_g Fc s0 p l e R s m args below meth c Q D cl tys M (sc.1, sc.2.1, b) A ws0 sh0 S pc)
    {suf : ck_cd} {S : ck_S} {pc : Nat} (hsuf : ∀ x ∈ suf, x ∈ code) (h : ck_do M kr sp code suf k S pc = true) : ck_g Fc s0 p l e R s m args below meth c Q D cl tys M (sc.1, sc.2.1, b) A ws0 sh0 S pc := by
  unfold ck_do at h
  split at h
  · rename_i x hx
    have hm := List.mem_of_find?_eq_some hx
    have hp : x.1 = pc := by
      have z := List.find?_some hx
      exact eq_of_beq z
    split at h
    · rename_i L hL
      have := hsp x hm S L hL b hb (fun S' hS' => hk code S' x.2.1 (fun _ h => h) (List.all_eq_true.mp h S' hS'))
      rw [hp] at this
      exact this
    · cases h
  · split at h
    · rename_i y hy
      obtain ⟨y1, y2⟩ := ck_sfx_ok (i := y.1) (l := y.2.1) (t := y.2.2) hy hsuf
      have X' : ck_cx p l e R s m args below meth c cc own D cl tys M (sc.1, sc.2.1, b) A := X
      have hgl' : ∀ i ∈ mgl M, ck_hs s args own (sc.1, sc.2.1, b) i := hgl
      exact ck_step_ok (sc := (sc.1, sc.2.1, b)) (kr := kr) (k := fun S pc => k y.2.2 S pc) X' hfl hpl hnl hkl hil hxl hal hgl' (hvl b) (fun S pc hq => hk y.2.2 S pc y2 hq) (hret b hb) h (hcode (pc, y.1, y.2.1) y1)
    · cases h
theorem ck_go_ok (hnE : 0 < nE) (X : ck_cx p l e R s m args below meth c cc own D cl tys M sc A) (hfl : ∀ x ∈ mfl M, ck_hg s args own cl x) (hpl : ∀ x ∈ mpl M, ck_hp s args own cl (meth.name = "<init>") x) (hnl : ∀ x ∈ mnw M, ck_hn s args own cl (mTT M) x) (hkl : ∀ x ∈ mkl M, ck_hk s args own x) (hil : ∀ x ∈ mil M, ck_hi s args own cl x) (hxl : ∀ x ∈ mxl M, ck_hx s args own cl x) (hal : ∀ x ∈ mal M, ck_ha s tys cl x)
    (hgl : ∀ i ∈ mgl M, ck_hs s args own sc i) (hvl : ∀ (b : Nat → Int), ∀ x ∈ mvl M, ck_cs Fc s0 p l e R s m args below meth c Q cc D cl tys M (sc.1, sc.2.1, b) A x) (hcode : ∀ x ∈ code, decode cc x.1 = .ok (x.2.1, x.2.2))
    (hret : ∀ (b : Nat → Int), (∀ k, k < nE → b (1000 + k) = (n1 k).1) → ∀ (kd : Nat) (S : ck_S), kr kd S = true → ck_rst kd S → ∀ pc, decode cc pc = .ok (ck_ri kd, 1) → ck_g Fc s0 p l e R s m args below meth c Q D cl tys M (sc.1, sc.2.1, b) A ws0 sh0 S pc)
    (hsp : ∀ x ∈ sp, ∀ (S : ck_S) (L : List ck_S), x.2.2 S = some L → ∀ b : Nat → Int, (∀ k, k < nE → b (1000 + k) = (n1 k).1) → (∀ S' ∈ L, ck_g Fc s0 p l e R s m args below meth c Q D cl tys M (sc.1, sc.2.1, b) A ws0 sh0 S' x.2.1) → ck_g Fc s0 p l e R s m args below meth c Q D cl tys M (sc.1, sc.2.1, b) A ws0 sh0 S x.1)
    (hiv : ∀ x ∈ ivs, ck_okI nE x.2 = true) {b : Nat → Int} (hb : ∀ k, k < nE → b (1000 + k) = (n1 k).1) {cur : Option ck_K}
    (hI : ∀ x ∈ ivs, ∀ n, (∀ K, cur = some K → ck_lx (ck_rk x.2.2 (fun j => (n (ck_k x.2.2 j).2.1).1)) (ck_rk K b)) → (∀ k, k < nE → (n k).1 = (n1 k).1) → ck_pi Fc s0 p l e R s m args below meth c Q D cl tys M sc A ws0 sh0 x n) :
    ∀ (f : Nat) (suf : ck_cd) (S : ck_S) (pc : Nat), (∀ x ∈ suf, x ∈ code) → ck_go M kr sp code ivs nE cur f suf S pc = true → ck_g Fc s0 p l e R s m args below meth c Q D cl tys M (sc.1, sc.2.1, b) A ws0 sh0 S pc := by
  intro f
  induction f with
  | zero => intro suf S pc _ h; cases h
  | succ f ih =>
    intro suf S pc hsuf h
    rw [ck_go] at h
    split at h
    · obtain ⟨x, hm, hx2⟩ := List.any_eq_true.mp h
      rw [Bool.and_eq_true] at hx2
      have ep : x.1 = pc := eq_of_beq hx2.1
      have := ck_to_ok (p := p) (l := l) (e := e) (R := R) (s := s) (m := m) (args := args) (below := below) (meth := meth) (c := c) (Q := Q) (D := D) (cl := cl) (tys := tys) (A := A) (ws0 := ws0) (sh0 := sh0) hnE hb (hiv x hm) hx2.2 (hI x hm)
      rw [ep] at this
      exact this
    · exact ck_do_ok hnE X hfl hpl hnl hkl hil hxl hal hgl hvl hcode hret hsp hb (fun suf S pc hs hq => ih suf S pc hs hq) hsuf h
theorem ck_run_ok (hnE : 0 < nE) (X : ck_cx p l e R s m args below meth c cc own D cl tys M sc A) (hfl : ∀ x ∈ mfl M, ck_hg s args own cl x) (hpl : ∀ x ∈ mpl M, ck_hp s args own cl (meth.name = "<init>") x) (hnl : ∀ x ∈ mnw M, ck_hn s args own cl (mTT M) x) (hkl : ∀ x ∈ mkl M, ck_hk s args own x) (hil : ∀ x ∈ mil M, ck_hi s args own cl x) (hxl : ∀ x ∈ mxl M, ck_hx s args own cl x) (hal : ∀ x ∈ mal M, ck_ha s tys cl x)
    (hgl : ∀ i ∈ mgl M, ck_hs s args own sc i) (hvl : ∀ (b : Nat → Int), ∀ x ∈ mvl M, ck_cs Fc s0 p l e R s m args below meth c Q cc D cl tys M (sc.1, sc.2.1, b) A x) (hcode : ∀ x ∈ code, decode cc x.1 = .ok (x.2.1, x.2.2))
    (hret : ∀ (b : Nat → Int), (∀ k, k < nE → b (1000 + k) = (n1 k).1) → ∀ (kd : Nat) (S : ck_S), kr kd S = true → ck_rst kd S → ∀ pc, decode cc pc = .ok (ck_ri kd, 1) → ck_g Fc s0 p l e R s m args below meth c Q D cl tys M (sc.1, sc.2.1, b) A ws0 sh0 S pc)
    (hsp : ∀ x ∈ sp, ∀ (S : ck_S) (L : List ck_S), x.2.2 S = some L → ∀ b : Nat → Int, (∀ k, k < nE → b (1000 + k) = (n1 k).1) → (∀ S' ∈ L, ck_g Fc s0 p l e R s m args below meth c Q D cl tys M (sc.1, sc.2.1, b) A ws0 sh0 S' x.2.1) → ck_g Fc s0 p l e R s m args below meth c Q D cl tys M (sc.1, sc.2.1, b) A ws0 sh0 S x.1)
    {f : Nat} {S0 : ck_S} (h : ck_chk M kr sp code ivs nE f S0 = true) {b : Nat → Int} (hb : ∀ k, k < nE → b (1000 + k) = (n1 k).1) : ck_g Fc s0 p l e R s m args below meth c Q D cl tys M (sc.1, sc.2.1, b) A ws0 sh0 S0 0 := by
  unfold ck_chk at h
  rw [Bool.and_eq_true] at h
  obtain ⟨h0, hall⟩ := h
  have hiv : ∀ x ∈ ivs, ck_okI nE x.2 = true := fun x hx => by
    have h1 := List.all_eq_true.mp hall x hx
    unfold ck_one at h1
    rw [Bool.and_eq_true] at h1
    exact h1.1
  have key : ∀ r : Nat × Nat × Nat, ∀ x ∈ ivs, ∀ n : ck_N, ck_rk x.2.2 (fun j => (n (ck_k x.2.2 j).2.1).1) = r → (∀ k, k < nE → (n k).1 = (n1 k).1) → ck_pi Fc s0 p l e R s m args below meth c Q D cl tys M sc A ws0 sh0 x n := by
    refine ck_lx_ind fun r ih => ?_
    intro x hx n hr hn ws sh H locs ls vs o hw hx1 hP hD hS
    have h1 := List.all_eq_true.mp hall x hx
    unfold ck_one at h1
    rw [Bool.and_eq_true] at h1
    obtain ⟨hok, h1⟩ := h1
    obtain ⟨b', hb'⟩ : ∃ b' : Nat → Int, b' = fun j => if j < 1000 then (n (ck_k x.2.2 j).2.1).1 else (n1 (j - 1000)).1 := ⟨_, rfl⟩
    have q1 : ∀ k, k < nE → b' (1000 + k) = (n1 k).1 := fun k _ => by
      rw [hb']
      dsimp only
      rw [if_neg (by omega)]
      have e9 : 1000 + k - 1000 = k := by omega
      rw [e9]
    have q2 : ∀ j, j < 1000 → b' j = (n (ck_k x.2.2 j).2.1).1 := fun j hj => by
      rw [hb']
      exact if_pos hj
    have erk : ck_rk x.2.2 b' = r := by
      rw [← hr]
      unfold ck_rk
      rw [q2 0 (by omega), q2 1 (by omega), q2 2 (by omega)]
    unfold ck_okI at hok
    simp only [Bool.and_eq_true, decide_eq_true_eq] at hok
    obtain ⟨k1, k2, k3⟩ := hok
    have hz : ∀ y ∈ x.2.1.2.2.1, y.1 ≠ 0 := fun y hy => by
      have := List.all_eq_true.mp k1 y hy
      rw [Bool.not_eq_true', beq_eq_false_iff_ne] at this
      exact this
    have X' : ck_cx p l e R s m args below meth c cc own D cl tys M (sc.1, sc.2.1, b') A := X
    have hgl' : ∀ i ∈ mgl M, ck_hs s args own (sc.1, sc.2.1, b') i := hgl
    have hgo : ∀ (suf : ck_cd) (S : ck_S) (pc : Nat), (∀ x ∈ suf, x ∈ code) → ck_go M kr sp code ivs nE (some x.2.2) f suf S pc = true → ck_g Fc s0 p l e R s m args below meth c Q D cl tys M (sc.1, sc.2.1, b') A ws0 sh0 S pc := fun suf S pc hsu hk =>
      ck_go_ok (n1 := n1) (b := b') hnE X hfl hpl hnl hkl hil hxl hal hgl hvl hcode hret hsp hiv q1 (cur := some x.2.2) (fun x' hx' n' hlt hn' => ih _ (by rw [← erk]; exact hlt _ rfl) x' hx' n' rfl hn') f suf S pc hsu hk
    have hg := ck_do_ok (S := ck_si nE x.2) (b := b') hnE X hfl hpl hnl hkl hil hxl hal hgl hvl hcode hret hsp q1 hgo (fun _ h => h) h1
    refine hg n ws sh H locs ls vs ⟨o.1, ?_, o.2.2.1.imp (fun a c hac => hac.sc rfl rfl), ?_, o.2.2.2.2⟩ hw hx1 hP hD hS
    · obtain ⟨lv, u1, u2⟩ := o.2.1
      exact ⟨lv, u1, u2.imp fun a c hac => ⟨hac.1, hac.2.sc rfl rfl⟩⟩
    · intro z hzm
      rcases List.mem_append.mp hzm with hzm | hzm
      · exact (ck_mo.sc (sc := sc) (sc' := (sc.1, sc.2.1, b')) rfl rfl hz o.2.2.2.1) z hzm
      · rcases List.mem_append.mp hzm with hzm | hzm
        · obtain ⟨k, hk, rfl⟩ := List.mem_map.mp hzm
          have hk := List.mem_range.mp hk
          exact Or.inl ⟨rfl, Nat.lt_of_lt_of_le hk k2, Or.inr ⟨rfl, by rw [hn k hk]; exact (q1 k hk).symm⟩⟩
        · have hl := List.all_eq_true.mp k3 z hzm
          rw [decide_eq_true_eq] at hl
          simp only [ck_rb, List.mem_cons, List.not_mem_nil, or_false] at hzm
          rcases hzm with rfl | rfl | rfl
          · exact Or.inl ⟨rfl, hl, Or.inr ⟨rfl, (q2 0 (by omega)).symm⟩⟩
          · exact Or.inl ⟨rfl, hl, Or.inr ⟨rfl, (q2 1 (by omega)).symm⟩⟩
          · exact Or.inl ⟨rfl, hl, Or.inr ⟨rfl, (q2 2 (by omega)).symm⟩⟩
  exact ck_go_ok (n1 := n1) (b := b) hnE X hfl hpl hnl hkl hil hxl hal hgl hvl hcode hret hsp hiv hb (cur := none) (fun x hx n _ hn => key _ x hx n rfl hn) f code S0 0 (fun _ h => h) h0
end
end
