/-! what changes entries, the view, trusts, sentences: merging isn't laid any more, or stays -/
def S_G : List (Nat × Nat) := S_R8 ++ S_10
theorem sR_G : ∀ y ∈ S_R8, y ∈ S_G := by decide
theorem s10_G : ∀ y ∈ S_10, y ∈ S_G := by decide
/-- all at once -/
theorem j10_fin {B : Nat → Nat} {w : lW} {A : zW} {tys : List (ClassId × FieldType)} {n t k : Int32} (hb : bI B w) (hw : ck_wo tys cw_TT cw_SG w.1 w.2) (h8 : j8 w) (hA : zA A w.1 w.2) (e8 : zF A 343 8 = .int n) (e15 : zF A 343 15 = .int t) (e16 : zF A 343 16 = .int k) (hm : jmm A n t k) : j10 w := by
  obtain ⟨n', t', k', c, hy⟩ := j8_on hb hw h8 hA
  obtain ⟨⟨a1, -⟩, a2, a3, -⟩ := id hy.1.1
  have en : n' = n := by
    rw [a1] at e8
    injection e8
  have et : t' = t := by
    rw [a2] at e15
    injection e15
  have ek : k' = k := by
    rw [a3] at e16
    injection e16
  subst en
  subst et
  subst ek
  exact ⟨A, hA, n', t', k', c, hy, hm⟩
/-- behind the class's call, which leaves all of it alone -/
theorem J10.h1 {B : Nat → Nat} {rt : Nat} {Wr : List (Nat × Nat)} {T : fT} {cc : ByteArray} {As : List Value} {w w1 : lW} {rv : Option Value} (hJ : J10 B w) (h1 : fLr (fq cw_TT cw_SG rt Wr T cc) As w rv w1) (hk : bs_K.all (fun x => !(Wr.contains x)) = true) (hs : nW S_G Wr = true) : ∃ (A A1 : zW) (n m q t k c : Int32), O8 A n m q t k c ∧ zA A1 w1.1 w1.2 ∧ agj S_G A1 A ∧ jmm A1 n t k ∧ zF A1 343 8 = .int n ∧ zF A1 343 15 = .int t ∧ zF A1 343 16 = .int k ∧ zF A1 343 1 = .int c := by
  obtain ⟨tys, hw, -⟩ := h1.2.2.2.2.1
  obtain ⟨A, n, m, q, t, k, c, hA, o, hm⟩ := J10.o hJ hw
  obtain ⟨X, hN, hA1⟩ := z_fr h1 hA hk
  have g : agj S_G (zhv Wr A X) A := agj.hv hs hN
  have F : ∀ p i, p < 385 → (zn lp_sh p, i) ∈ S_G → zF (zhv Wr A X) p i = zF A p i := g.1.1
  obtain ⟨⟨a1, -⟩, a2, a3, a4⟩ := id o.y.1.1
  exact ⟨A, zhv Wr A X, n, m, q, t, k, c, o, hA1, g, jmm_ag hm o.n.1 (g.sub s10_G), (F 343 8 (by decide) (by decide +kernel)).trans a1, (F 343 15 (by decide) (by decide +kernel)).trans a2, (F 343 16 (by decide) (by decide +kernel)).trans a3, (F 343 1 (by decide) (by decide +kernel)).trans a4⟩
set_option maxRecDepth 20000 in
theorem pk10_trust {B : Nat → Nat} : ∀ (w w1 w2 : lW) (rv1 rv2 : Option Value) (u x : Int32), J10 B w → fLr r_X11_trust [.ref (B 0), .int u, .int x] w rv1 w1 → fLr r_X12_trust [.ref (B 343), .int u, .int x] w1 rv2 w2 → j10 w2 := by
  intro w w1 w2 rv1 rv2 u x hJ h1 h2
  have hb1 : bI B w1 := hJ.1.1.1.b.keep h1 (by decide)
  have hb2 : bI B w2 := hb1.keep h2 (by decide)
  obtain ⟨tysz, -, hwz⟩ := h2.2.2.2.2.1
  have h8 := pk8_trust w w1 w2 rv1 rv2 u x (J10.j8 hJ) h1 h2
  obtain ⟨A, A1, n, m, q, t, k, c, o, hA1, g, hm, e8, e15, e16, ec⟩ := J10.h1 hJ h1 (by decide) (by decide +kernel)
  obtain ⟨A2, u2, hA2, hv2, hQ2⟩ := zrun za_X12_trust h2 hA1 (zargs hb1 (by decide) (s := [.int u, .int x]) ⟨rfl, rfl, trivial⟩) (K := fun rv A' => zhdQ (ztrV u x) (zI A1 345 u.toInt.toNat) (ztr_H u x A1) A1 rv A') ⟨(u, x), rfl, trivial, fun _ _ h => h⟩
  unfold zhdQ at hQ2
  cases hV : ztrV u x with
  | some v =>
    rw [hV] at hQ2
    obtain ⟨-, e4⟩ := hQ2
    rw [← e4] at e8 e15 e16 hm
    exact j10_fin hb2 hwz h8 hA2 e8 e15 e16 hm
  | none =>
    rw [hV] at hQ2
    obtain ⟨-, e4⟩ := hQ2
    have e4 : A2 = zuF (zov (zuI A1 345 u.toInt.toNat x)) 343 43 (.int (Int32.ofInt 0)) := e4
    have F : ∀ p i, ¬ (p = 343 ∧ (i = 43 ∨ i = 19 ∨ i = 33 ∨ i = 55)) → zF A2 p i = zF A1 p i := fun p i h => by
      rw [e4, zuF_x, if_neg (fun z => h ⟨z.1, Or.inl z.2⟩), zov_F (fun z => h ⟨z.1, Or.inr z.2⟩)]
      rfl
    have I : ∀ p i, p ≠ 345 → zI A2 p i = zI A1 p i := fun p i h => by
      rw [e4]
      show zI (zuI A1 345 _ x) p i = _
      rw [zuI_x, if_neg (fun z => h z.1)]
    have J : ∀ p i, zJ A2 p i = zJ A1 p i := fun p i => by
      rw [e4]
      rfl
    refine j10_fin hb2 hwz h8 hA2 ((F 343 8 (by omega)).trans e8) ((F 343 15 (by omega)).trans e15) ((F 343 16 (by omega)).trans e16) (jmm_off hm o.n.1 ⟨fun e _ => I 349 e (by decide), fun w e _ => ?_⟩ (Int.le_refl _) (F 324 3 (by omega)) (F 324 1 (by omega)) (fun x w hx => I _ w (by omega)) ?_)
    · unfold seb sew ses
      rw [I 348 e (by decide), J]
    · rw [e4, zuF_x, if_neg (by decide)]
      unfold zov
      rw [zuF_x, if_pos ⟨rfl, rfl⟩]
set_option maxRecDepth 20000 in
/-- an entry more, on the reference's side -/
theorem zae_off {A : zW} {n t k s u f t' k' n0 : Int32} (hn : zF A 343 8 = .int n) (h0 : 0 ≤ n.toInt) (h12 : n.toInt < 12) (e15 : zF A 343 15 = .int t) (e16 : zF A 343 16 = .int k) (hm : jmm A n t k) : zF (zae A s u f t' k') 343 8 = .int (n + 1) ∧ zF (zae A s u f t' k') 343 15 = .int t ∧ zF (zae A s u f t' k') 343 16 = .int k ∧ jmm (zae A s u f t' k') (n + 1) t k := by
  have en : (n + 1).toInt = n.toInt + 1 := i_inc h0 (by omega)
  refine ⟨zae_8 hn, (zae_F (by omega)).trans e15, (zae_F (by omega)).trans e16, jmm_off hm h0 ⟨fun e he => ?_, fun w e he => ?_⟩ (by omega) (zae_F (by omega)) (zae_F (by omega)) (fun x w hx => zae_I (by omega)) ?_⟩
  · rw [(zae_at hn e).2.1, if_neg (by omega)]
  · unfold seb sew ses
    rw [(zae_at hn e).1, if_neg (by omega)]
    rfl
  · unfold zae zov
    rw [zuF_x, if_pos ⟨rfl, rfl⟩]
set_option maxRecDepth 20000 in
theorem pk10_hold {B : Nat → Nat} : ∀ (w w1 w2 : lW) (rv1 rv2 : Option Value) (s u f t' k' : Int32), J10 B w → fLr r_X11_hold [.ref (B 0), .int s, .int u, .int f, .int t', .int k'] w rv1 w1 → fLr r_X12_hold [.ref (B 343), .int s, .int u, .int f, .int t', .int k'] w1 rv2 w2 → j10 w2 := by
  intro w w1 w2 rv1 rv2 s u f t' k' hJ h1 h2
  have hb1 : bI B w1 := hJ.1.1.1.b.keep h1 (by decide)
  have hb2 : bI B w2 := hb1.keep h2 (by decide)
  obtain ⟨tysz, -, hwz⟩ := h2.2.2.2.2.1
  have h8 := pk8_hold w w1 w2 rv1 rv2 s u f t' k' (J10.j8 hJ) h1 h2
  obtain ⟨A, A1, n, m, q, t, k, c, o, hA1, g, hm, e8, e15, e16, ec⟩ := J10.h1 hJ h1 (by decide) (by decide +kernel)
  obtain ⟨A2, u2, hA2, hv2, hQ2⟩ := zrun za_X12_hold h2 hA1 (zargs hb1 (by decide) (s := [.int s, .int u, .int f, .int t', .int k']) ⟨rfl, rfl, rfl, rfl, rfl, trivial⟩) (K := fun rv A' => zhdQ (zhdV c n s u f t' k') n (fun A' => A' = zae A1 s u f t' k') A1 rv A') ⟨((c, n), s, u, f, t', k'), rfl, ⟨ec, e8, o.n⟩, fun _ _ h => h⟩
  unfold zhdQ at hQ2
  cases hV : zhdV c n s u f t' k' with
  | some v =>
    rw [hV] at hQ2
    obtain ⟨-, e4⟩ := hQ2
    rw [← e4] at e8 e15 e16 hm
    exact j10_fin hb2 hwz h8 hA2 e8 e15 e16 hm
  | none =>
    rw [hV] at hQ2
    obtain ⟨-, e4⟩ := hQ2
    have e4 : A2 = zae A1 s u f t' k' := e4
    obtain ⟨-, -, hn⟩ := zhd_g hV
    obtain ⟨a1, a2, a3, a4⟩ := zae_off (n0 := n) (s := s) (u := u) (f := f) (t' := t') (k' := k') e8 o.n.1 hn e15 e16 hm
    rw [← e4] at a1 a2 a3 a4
    exact j10_fin hb2 hwz h8 hA2 a1 a2 a3 a4
/-- what is given up, on the reference's side -/
theorem zgf_off {A : zW} {n t k set : Int32} {e : Nat} (h0 : 0 ≤ n.toInt) (e8 : zF A 343 8 = .int n) (e15 : zF A 343 15 = .int t) (e16 : zF A 343 16 = .int k) (hm : jmm A n t k) : zF (zov (zgF A set k e)) 343 8 = .int n ∧ zF (zov (zgF A set k e)) 343 15 = .int t ∧ zF (zov (zgF A set k e)) 343 16 = .int k ∧ jmm (zov (zgF A set k e)) n t k := by
  obtain ⟨z1, z2, z3, z4, z5, -⟩ := zgF_k (A := A) (set := set) (k := k) (e := e)
  have F : ∀ p i, ¬ (p = 343 ∧ (i = 19 ∨ i = 33 ∨ i = 55)) → zF (zov (zgF A set k e)) p i = zF A p i := fun p i h => by
    rw [zov_F h, z3]
  have I : ∀ p i, p ≠ 353 → zI (zov (zgF A set k e)) p i = zI A p i := fun p i h => z2 p i h
  refine ⟨(F 343 8 (by omega)).trans e8, (F 343 15 (by omega)).trans e15, (F 343 16 (by omega)).trans e16, jmm_off hm h0 ⟨fun e _ => I 349 e (by decide), fun w e _ => ?_⟩ (Int.le_refl _) (F 324 3 (by omega)) (F 324 1 (by omega)) (fun x w hx => I _ w (by omega)) ?_⟩
  · unfold seb sew ses
    rw [I 348 e (by decide)]
    exact congrArg (fun z => z.toBitVec.getLsbD (w % 64)) (z5 344 _)
  · unfold zov
    rw [zuF_x, if_pos ⟨rfl, rfl⟩]
set_option maxRecDepth 20000 in
theorem pk10_giveUp {B : Nat → Nat} : ∀ (w w1 w2 : lW) (rv1 rv2 : Option Value) (s : Int32), J10 B w → fLr r_X11_giveUp [.ref (B 0), .int s] w rv1 w1 → fLr r_X12_giveUp [.ref (B 343), .int s] w1 rv2 w2 → j10 w2 := by
  intro w w1 w2 rv1 rv2 s hJ h1 h2
  have hb1 : bI B w1 := hJ.1.1.1.b.keep h1 (by decide)
  have hb2 : bI B w2 := hb1.keep h2 (by decide)
  obtain ⟨tysz, -, hwz⟩ := h2.2.2.2.2.1
  have h8 := (pk8_giveUp w w1 w2 rv1 rv2 s (J10.j8 hJ) h1 h2).2
  obtain ⟨A, A1, n, m, q, t, k, c, o, hA1, g, hm, e8, e15, e16, ec⟩ := J10.h1 hJ h1 (by decide) (by decide +kernel)
  obtain ⟨A2, u2, hA2, hv2, v2, e2, B1, hM, eA2⟩ := zrun zc_X12_giveUp h2 hA1 (zargs hb1 (by decide) (s := [.int s]) ⟨rfl, trivial⟩) (K := fun rv A' => ∃ v : Int32, rv = some (.int v) ∧ gmR ((c, n, t, k), s) A1 v A') ⟨((c, n, t, k), s), rfl, o.lm (g.sub sR_G), fun _ _ h => h⟩
  have eA2 : A2 = if v2.toInt < 0 then B1 else zov (zgF B1 v2 k n.toInt.toNat) := eA2
  have hB : zF B1 343 8 = .int n ∧ zF B1 343 15 = .int t ∧ zF B1 343 16 = .int k ∧ jmm B1 n t k := by
    have same : B1 = A1 → zF B1 343 8 = .int n ∧ zF B1 343 15 = .int t ∧ zF B1 343 16 = .int k ∧ jmm B1 n t k := fun e => by
      rw [e]
      exact ⟨e8, e15, e16, hm⟩
    rcases hM with ⟨-, -, e⟩ | ⟨-, -, -, e⟩ | ⟨-, -, hq, -⟩
    · exact same e
    · exact same e
    · have hq : laQ (n, t, k) A1 B1 := hq
      exact ⟨hq.2.1.1.1, hq.2.1.2.2.1.1, hq.2.1.2.2.1.2, jmm_ag hm o.n.1 (hq.1.sub s10_Y)⟩
  obtain ⟨b8, b15, b16, bm⟩ := hB
  by_cases c : v2.toInt < 0
  · rw [if_pos c] at eA2
    rw [← eA2] at b8 b15 b16 bm
    exact j10_fin hb2 hwz h8 hA2 b8 b15 b16 bm
  · rw [if_neg c] at eA2
    obtain ⟨a1, a2, a3, a4⟩ := zgf_off (set := v2) (e := n.toInt.toNat) o.n.1 b8 b15 b16 bm
    rw [← eA2] at a1 a2 a3 a4
    exact j10_fin hb2 hwz h8 hA2 a1 a2 a3 a4
set_option maxRecDepth 20000 in
theorem pk10_news {B : Nat → Nat} : ∀ (w w1 w2 : lW) (rv1 rv2 : Option Value) (s u : Int32), J10 B w → fLr r_X11_news [.ref (B 0), .int s, .int u] w rv1 w1 → fLr r_X12_news [.ref (B 343), .int s, .int u] w1 rv2 w2 → j10 w2 := by
  intro w w1 w2 rv1 rv2 s u hJ h1 h2
  have hb1 : bI B w1 := hJ.1.1.1.b.keep h1 (by decide)
  have hb2 : bI B w2 := hb1.keep h2 (by decide)
  obtain ⟨tysz, -, hwz⟩ := h2.2.2.2.2.1
  have h8 := pk8_news w w1 w2 rv1 rv2 s u (J10.j8 hJ) h1 h2
  obtain ⟨A, A1, n, m, q, t, k, c, o, hA1, g, hm, e8, e15, e16, ec⟩ := J10.h1 hJ h1 (by decide) (by decide +kernel)
  obtain ⟨A2, u2, hA2, hv2, hQ2⟩ := zrun zc_X12_news h2 hA1 (zargs hb1 (by decide) (s := [.int s, .int u]) ⟨rfl, rfl, trivial⟩) (K := fun rv A' => zhdQ (znwV c n s u (znm_e A1 s)) n (fun A' => ∃ B1, laQ (n, t, k) A1 B1 ∧ A' = zae (nmG B1 n t k s) s u t (Int32.ofInt 99) k) A1 rv A') ⟨((c, n, t, k), s, u), rfl, o.lm (g.sub sR_G), fun _ _ h => h⟩
  unfold zhdQ at hQ2
  cases hV : znwV c n s u (znm_e A1 s) with
  | some v =>
    rw [hV] at hQ2
    obtain ⟨-, e4⟩ := hQ2
    rw [← e4] at e8 e15 e16 hm
    exact j10_fin hb2 hwz h8 hA2 e8 e15 e16 hm
  | none =>
    rw [hV] at hQ2
    obtain ⟨-, B1, hq, e4⟩ := hQ2
    have hq : laQ (n, t, k) A1 B1 := hq
    have e4 : A2 = zae (nmG B1 n t k s) s u t (Int32.ofInt 99) k := e4
    obtain ⟨-, -, hn⟩ := znw_g hV
    obtain ⟨b1, b2, b3, b4⟩ := zgf_off (set := encM (lmV ((n, t, k), s.toInt.toNat, Int32.ofInt 1) B1)) (e := n.toInt.toNat) o.n.1 hq.2.1.1.1 hq.2.1.2.2.1.1 hq.2.1.2.2.1.2 (jmm_ag hm o.n.1 (hq.1.sub s10_Y))
    obtain ⟨a1, a2, a3, a4⟩ := zae_off (n0 := n) (s := s) (u := u) (f := t) (t' := Int32.ofInt 99) (k' := k) b1 o.n.1 hn b2 b3 b4
    have e5 : zae (nmG B1 n t k s) s u t (Int32.ofInt 99) k = A2 := e4.symm
    unfold nmG at e5
    rw [e5] at a1 a2 a3 a4
    exact j10_fin hb2 hwz h8 hA2 a1 a2 a3 a4
set_option maxRecDepth 20000 in
theorem pk10_drop {B : Nat → Nat} : ∀ (w w1 w2 : lW) (rv1 rv2 : Option Value) (e u : Int32), J10 B w → fLr r_X11_drop [.ref (B 0), .int e, .int u] w rv1 w1 → fLr r_X12_drop [.ref (B 343), .int e, .int u] w1 rv2 w2 → j10 w2 := by
  intro w w1 w2 rv1 rv2 e u hJ h1 h2
  have hb1 : bI B w1 := hJ.1.1.1.b.keep h1 (by decide)
  have hb2 : bI B w2 := hb1.keep h2 (by decide)
  obtain ⟨tysz, -, hwz⟩ := h2.2.2.2.2.1
  have h8 := (pk8_drop w w1 w2 rv1 rv2 e u (J10.j8 hJ) h1 h2).2
  obtain ⟨A, A1, n, m, q, t, k, c, o, hA1, g, hm, e8, e15, e16, ec⟩ := J10.h1 hJ h1 (by decide) (by decide +kernel)
  obtain ⟨A2, u2, hA2, hv2, hQ2⟩ := zrun zc_X12_drop h2 hA1 (zargs hb1 (by decide) (s := [.int e, .int u]) ⟨rfl, rfl, trivial⟩) (K := drQ n e u (.int (zI A1 353 e.toInt.toNat)) (zov (zuI A1 353 e.toInt.toNat u)) A1) ⟨(n, e, u), rfl, ⟨e8, o.n⟩, fun _ _ h => h⟩
  have same : A2 = A1 → j10 w2 := fun e4 => by
    rw [← e4] at e8 e15 e16 hm
    exact j10_fin hb2 hwz h8 hA2 e8 e15 e16 hm
  rcases hQ2 with ⟨-, -, e4⟩ | ⟨-, -, -, e4⟩ | ⟨-, -, -, e4⟩
  · exact same e4
  · exact same e4
  · have F : ∀ p i, ¬ (p = 343 ∧ (i = 19 ∨ i = 33 ∨ i = 55)) → zF A2 p i = zF A1 p i := fun p i h => by
      rw [e4, zov_F h]
      rfl
    have I : ∀ p i, p ≠ 353 → zI A2 p i = zI A1 p i := fun p i h => by
      rw [e4]
      show zI (zuI A1 353 _ u) p i = _
      rw [zuI_x, if_neg (fun z => h z.1)]
    have J : ∀ p i, zJ A2 p i = zJ A1 p i := fun p i => by
      rw [e4]
      rfl
    refine j10_fin hb2 hwz h8 hA2 ((F 343 8 (by omega)).trans e8) ((F 343 15 (by omega)).trans e15) ((F 343 16 (by omega)).trans e16) (jmm_off hm o.n.1 ⟨fun e _ => I 349 e (by decide), fun w e _ => ?_⟩ (Int.le_refl _) (F 324 3 (by omega)) (F 324 1 (by omega)) (fun x w hx => I _ w (by omega)) ?_)
    · unfold seb sew ses
      rw [I 348 e (by decide), J]
    · rw [e4]
      unfold zov
      rw [zuF_x, if_pos ⟨rfl, rfl⟩]
set_option maxRecDepth 20000 in
theorem pk10_view {B : Nat → Nat} : ∀ (w w1 w2 : lW) (rv1 rv2 : Option Value) (t' k' : Int32), J10 B w → fLr r_X11_view [.ref (B 0), .int t', .int k'] w rv1 w1 → fLr r_X12_view [.ref (B 343), .int t', .int k'] w1 rv2 w2 → j10 w2 := by
  intro w w1 w2 rv1 rv2 t' k' hJ h1 h2
  have hb1 : bI B w1 := hJ.1.1.1.b.keep h1 (by decide)
  have hb2 : bI B w2 := hb1.keep h2 (by decide)
  obtain ⟨tysz, -, hwz⟩ := h2.2.2.2.2.1
  have h8 := (pk8_view w w1 w2 rv1 rv2 t' k' (J10.j8 hJ) h1 h2).2
  obtain ⟨A, A1, n, m, q, t, k, c, o, hA1, g, hm, e8, e15, e16, ec⟩ := J10.h1 hJ h1 (by decide) (by decide +kernel)
  have hla := laP_m (jy_la o.y) (g.sub sR_G)
  obtain ⟨A2, u2, hA2, hv2, hQ2⟩ := zrun zc_X12_view h2 hA1 (zargs hb1 (by decide) (s := [.int t', .int k']) ⟨rfl, rfl, trivial⟩) (K := vwQm (n, t', k') A1) ⟨(n, t', k'), rfl, ⟨hla.1, hla.2.1, hla.2.2.2.1⟩, fun _ _ h => h⟩
  rcases hQ2 with ⟨-, -, e4⟩ | ⟨-, hq, -⟩
  · rw [← e4] at e8 e15 e16 hm
    exact j10_fin hb2 hwz h8 hA2 e8 e15 e16 hm
  · have hq : laQ (n, t', k') (vwM A1 t' k') A2 := hq
    have gY := hq.1
    have F : ∀ p i, ¬ (p = 343 ∧ (i = 15 ∨ i = 16 ∨ i = 19 ∨ i = 33 ∨ i = 55)) → zF (vwM A1 t' k') p i = zF A1 p i := fun p i h => by
      unfold vwM
      rw [zov_F (by omega), zuF_x, if_neg (by omega), zuF_x, if_neg (by omega)]
    have F2 : ∀ p i, p < 385 → (zn lp_sh p, i) ∈ S_Y → zF A2 p i = zF (vwM A1 t' k') p i := gY.1.1
    refine j10_fin hb2 hwz h8 hA2 hq.2.1.1.1 hq.2.1.2.2.1.1 hq.2.1.2.2.1.2 (jmm_off hm o.n.1 ⟨fun e _ => (gY.1.2.1 349 e (by decide) (by decide +kernel)).1, fun w e _ => ?_⟩ (Int.le_refl _) ((F2 324 3 (by decide) (by decide +kernel)).trans (F 324 3 (by omega))) ((F2 324 1 (by decide) (by decide +kernel)).trans (F 324 1 (by omega))) (fun x w hx => (gY.1.2.1 _ w (by omega) (s10_Y _ (sh_far x hx))).1) ?_)
    · unfold seb
      rw [sew_b (gY.sub sB_Y)]
      rfl
    · rw [F2 343 55 (by decide) (by decide +kernel)]
      unfold vwM zov
      rw [zuF_x, if_pos ⟨rfl, rfl⟩]
/-! a sentence more -/
def S_10r : List (Nat × Nat) := [(49, 0), (50, 0), (16, 1), (16, 3), (43, 0), (51, 0), (52, 0), (53, 0), (54, 0), (17, 55), (17, 56), (76, 0), (17, 8), (17, 15), (17, 16)]
theorem jmm_more {A A' : zW} {n t k c : Int32} (h : jmm A n t k) (h0 : 0 ≤ n.toInt) (hs : ∀ e : Nat, (e : Int) < n.toInt → 0 ≤ (zI A 348 e).toInt ∧ (zI A 348 e).toInt < c.toInt) (g : agj S_10r A' A) (hJ : ∀ i, i < 4 * c.toInt.toNat → zJ A' 344 i = zJ A 344 i) : jmm A' n t k := by
  obtain ⟨hc, m, m1, m2⟩ := h
  have I : ∀ q i, q < 385 → (zn lp_sh q, 0) ∈ S_10r → zI A' q i = zI A q i := fun q i a b => (g.1.2.1 q i a b).1
  have shf : ∀ x, x < 6 → (zn lp_sh (326 + x), 0) ∈ S_10r := by decide +kernel
  have ho : ∀ w, w < 256 → ∀ e : Nat, (e : Int) < n.toInt → seb A' w e = seb A w e := fun w hw e he => by
    have h5 := hs e he
    unfold seb sew ses
    rw [I 348 e (by decide) (by decide +kernel), hJ _ (by omega)]
  have e349 : ∀ e, zI A' 349 e = zI A 349 e := fun e => I 349 e (by decide) (by decide +kernel)
  have emv : mvP A' t k = mvP A t k := funext (fun e => by
    unfold mvP
    rw [I 350 e (by decide) (by decide +kernel), I 351 e (by decide) (by decide +kernel), I 352 e (by decide) (by decide +kernel), I 353 e (by decide) (by decide +kernel)])
  have hbm : ∀ V, bmP A' V = bmP A V := fun V => funext (fun u => funext (fun e => by
    unfold bmP
    rw [e349]))
  have esr : ∀ V u, srcM A' V u n = srcM A V u n := fun V u => by
    unfold srcM
    rw [hbm]
  have eok : ∀ V u w, w < 256 → okE A' (srcM A V u n) w = okE A (srcM A V u n) w := fun V u w hw => by
    rw [Bool.eq_iff_iff, okE_t, okE_t]
    constructor
    · intro z e he hb
      have h3 := tb_n (srcM_lt (A := A) (V := V) (u := u) (n := n)) hb
      rw [← ho w hw e (by omega)]
      exact z e he hb
    · intro z e he hb
      have h3 := tb_n (srcM_lt (A := A) (V := V) (u := u) (n := n)) hb
      rw [ho w hw e (by omega)]
      exact z e he hb
  have etk : ∀ V, tkM A' V n = tkM A V n := fun V => funext (fun u => by
    unfold tkM
    rw [esr, exN_eq (fun w hw => eok V u w hw)])
  refine ⟨?_, m, (g.1.1 343 55 (by decide) (by decide +kernel)).trans m1, fun z => ?_⟩
  · obtain ⟨sv, a1, a2⟩ := hc
    refine ⟨sv, (g.1.1 324 3 (by decide) (by decide +kernel)).trans a1, fun z => ?_⟩
    obtain ⟨b1, b2, b3⟩ := a2 z
    refine ⟨b1, ?_, fun x hx ht w hw => ?_⟩
    · rw [etk]
      exact (g.1.1 324 1 (by decide) (by decide +kernel)).trans b2
    · rw [etk] at ht
      rw [I _ w (by omega) (shf x hx), b3 x hx ht w hw, esr]
      refine congrArg Int32.ofNat (spr_congr (fun y hy => ?_) 8 w (Nat.le_refl 8) hw)
      unfold st9E
      rw [eok _ x y hy]
  · obtain ⟨b2, b3⟩ := m2 z
    rw [emv]
    refine ⟨?_, fun x hx ht w hw => ?_⟩
    · rw [etk]
      exact (g.1.1 343 56 (by decide) (by decide +kernel)).trans b2
    · rw [etk] at ht
      rw [I 375 _ (by decide) (by decide +kernel), b3 x hx ht w hw, esr]
      refine congrArg Int32.ofNat (spr_congr (fun y hy => ?_) 8 w (Nat.le_refl 8) hw)
      unfold st99
      rw [eok _ x y hy]
theorem j10_more {B : Nat → Nat} {w w1 w2 : lW} {rt1 rt2 : Nat} {Wr1 Wr2 : List (Nat × Nat)} {T1 T2 : fT} {cc1 cc2 : ByteArray} {As1 As2 : List Value} {rv1 rv2 : Option Value} {c0 : Int32} {g g2 : Nat → Int64} (hJ : J10 B w) (h8 : j8 w2) (h1 : fLr (fq cw_TT cw_SG rt1 Wr1 T1 cc1) As1 w rv1 w1) (h2 : fLr (fq cw_TT cw_SG rt2 Wr2 T2 cc2) As2 w1 rv2 w2) (k1 : bs_K.all (fun x => !(Wr1.contains x)) = true) (k2 : bs_K.all (fun x => !(Wr2.contains x)) = true) (a1 : nW S_G Wr1 = true) (a2 : nW S_10r Wr2 = true) (hc : oF B 343 12 1 (.int c0) w1) (hg : aJ B 344 240 g w1) (hg2 : aJ B 344 240 g2 w2) (hgg : ∀ u, u < 4 * c0.toInt.toNat → g2 u = g u) : j10 w2 := by
  have hb1 : bI B w1 := hJ.1.1.1.b.keep h1 k1
  have hb2 : bI B w2 := hb1.keep h2 k2
  obtain ⟨tysz, -, hwz⟩ := h2.2.2.2.2.1
  obtain ⟨A, A1, n, m, q, t, k, c, o, hA1, g1, hm, e8, e15, e16, ec⟩ := J10.h1 hJ h1 k1 a1
  obtain ⟨X, hN, hA2⟩ := z_fr h2 hA1 k2
  have g3 : agj S_10r (zhv Wr2 A1 X) A1 := agj.hv a2 hN
  have e1 := zo_F hA1 hb1 (by decide) (by decide +kernel) hc
  have ecc : c = c0 := by
    rw [e1] at ec
    injection ec with z
    exact z.symm
  subst ecc
  have hs : ∀ e : Nat, (e : Int) < n.toInt → 0 ≤ (zI A1 348 e).toInt ∧ (zI A1 348 e).toInt < c.toInt := fun e he => by
    rw [(g1.1.2.1 348 e (by decide) (by decide +kernel)).1]
    exact o.y.1.2.2.1 e he
  have F : ∀ p i, p < 385 → (zn lp_sh p, i) ∈ S_10r → zF (zhv Wr2 A1 X) p i = zF A1 p i := g3.1.1
  refine j10_fin hb2 hwz h8 hA2 ((F 343 8 (by decide) (by decide +kernel)).trans e8) ((F 343 15 (by decide) (by decide +kernel)).trans e15) ((F 343 16 (by decide) (by decide +kernel)).trans e16) (jmm_more hm o.n.1 hs g3 (fun i hi => ?_))
  rw [za_J hA2 hb2 (by decide) hg2 i, za_J hA1 hb1 (by decide) hg i]
  exact hgg i hi
set_option maxRecDepth 20000 in
theorem pk10_read {B : Nat → Nat} : ∀ (w w1 w2 : lW) (rv1 rv2 : Option Value) (k lane i n : Int32), J10 B w → fLr r_X11_read [.ref (B 0), .int k, .int lane, .int i, .int n] w rv1 w1 → fLr r_X12_read [.ref (B 343), .int k, .int lane, .int i, .int n] w1 rv2 w2 → j10 w2 := by
  intro w w1 w2 rv1 rv2 k lane i n hJ h1 h2
  have h8 := pk8_read w w1 w2 rv1 rv2 k lane i n (J10.j8 hJ) h1 h2
  have hJX := hJ
  have hJ := hJX.1.1
  have e6 := pk6_read w w1 w2 rv1 rv2 k lane i n hJ h1 h2
  obtain ⟨h4, c, W, g, hc, hW, hg, hE⟩ := hJ
  have hb := h4.b
  have hb1 : bI B w1 := hb.keep h1 (by decide)
  obtain ⟨tys, hw, -⟩ := h1.2.2.2.2.1
  have e2 := pk2_read w w1 w2 rv1 rv2 k lane i n h4.1 h1 h2
  obtain ⟨c0, hc0, hm⟩ := h4.1.2
  have ec : c0 = c := hc0.uni hc
  subst ec
  obtain ⟨l, s, z, y, r, f, al, as, ar, az, ay, af, hj⟩ := sh_of h4.1.1 hw
  have hr := rng_0 hb hw hc
  have hm1 := hm.keep hb h1 bl_343 bt_343 (by decide)
  have hg1 := hg.keep hb h1 bl_344 bt_344 (by decide) (by decide)
  have P2 : rm_P (B, c0, y, z, f, k, lane, i, n) w1 := ⟨⟨hb1, hm1, az.keep hb h1 bl_381 bt_381 (by decide) (by decide), ay.keep hb h1 bl_382 bt_382 (by decide) (by decide), af.keep hb h1 bl_383 bt_383 (by decide) (by decide)⟩, hr, fun k hk => by rcases hj k hk with z | z <;> omega⟩
  obtain ⟨c2, g2, b4, b5, b6⟩ := s7_X12_read ((B, c0, y, z, f, k, lane, i, n), g) w1 w2 rv2 h2 ⟨P2, hg1⟩
  have hb2 : bI B w2 := hb1.keep h2 (by decide)
  obtain ⟨tysz, -, hwz⟩ := h2.2.2.2.2.1
  obtain ⟨AZ, hAZ⟩ := zA_ini hb2.1 hwz hb2.2
  obtain ⟨cz, -, hz, -, hz60⟩ := j7_c e6.2 hAZ hwz
  have ez : cz = c2 := by
    have h := zo_F hAZ hb2 (by decide) (by decide +kernel) b4
    rw [hz] at h
    injection h
  subst ez
  refine j10_more hJX h8 h1 h2 (by decide) (by decide) (by decide +kernel) (by decide +kernel) hm1 hg1 b5 (fun u hu => ?_)
  · rcases b6 with ⟨-, z⟩ | ⟨-, z, -⟩
    · exact z u
    · exact z u (Or.inl hu)
set_option maxRecDepth 20000 in
theorem pk10_make {B : Nat → Nat} : ∀ (w w1 w2 : lW) (rv1 rv2 : Option Value) (how a b : Int32), J10 B w → fLr r_X11_make [.ref (B 0), .int how, .int a, .int b] w rv1 w1 → fLr r_X12_make [.ref (B 343), .int how, .int a, .int b] w1 rv2 w2 → j10 w2 := by
  intro w w1 w2 rv1 rv2 how a b hJ h1 h2
  have h8 := pk8_make w w1 w2 rv1 rv2 how a b (J10.j8 hJ) h1 h2
  have hJX := hJ
  have hJ := hJX.1.1
  have e6 := pk6_make w w1 w2 rv1 rv2 how a b hJ h1 h2
  obtain ⟨h4, c, W, g, hc, hW, hg, hE⟩ := hJ
  have hb := h4.b
  have hb1 : bI B w1 := hb.keep h1 (by decide)
  obtain ⟨tys, hw, -⟩ := h1.2.2.2.2.1
  have e2 := pk2_make w w1 w2 rv1 rv2 how a b h4.1 h1 h2
  obtain ⟨c0, hc0, hm⟩ := h4.1.2
  have ec : c0 = c := hc0.uni hc
  subst ec
  have hr := rng_0 hb hw hc
  have hm1 := hm.keep hb h1 bl_343 bt_343 (by decide)
  obtain ⟨cT, hT⟩ := hg.keep hb h1 bl_344 bt_344 (by decide) (by decide)
  obtain ⟨fs, hp, hl, hv⟩ := id hm1
  obtain ⟨fs2, hp2, -, hA⟩ := hm1.ref hb1 bl_343 (show _ = some (2, 0, 344) from rfl) (k' := 2)
  have e : fs = fs2 := congrArg Prod.snd (Sum.inr.inj (Option.some.inj (hp.symm.trans hp2)))
  subst e
  obtain ⟨v2, c2, g2, -, ⟨fs', p1, p2, p3⟩, p4, q2, b6⟩ := (s7_X12_make _ _ _ _ _ _ h2).2 ((B 343, fs, c0), (B 344, cT, g), how, a, b) rfl ⟨hp, ⟨hv, hA, hl⟩, hT, hr⟩
  have b4 : oF B 343 12 1 (.int c2) w2 := ⟨fs', p1, p2, p3⟩
  have hb2 : bI B w2 := hb1.keep h2 (by decide)
  obtain ⟨tysz, -, hwz⟩ := h2.2.2.2.2.1
  obtain ⟨AZ, hAZ⟩ := zA_ini hb2.1 hwz hb2.2
  obtain ⟨cz, -, hz, -, hz60⟩ := j7_c e6.2 hAZ hwz
  have ez : cz = c2 := by
    have h := zo_F hAZ hb2 (by decide) (by decide +kernel) b4
    rw [hz] at h
    injection h
  subst ez
  refine j10_more hJX h8 h1 h2 (by decide) (by decide) (by decide +kernel) (by decide +kernel) hm1 (hg.keep hb h1 bl_344 bt_344 (by decide) (by decide)) p4 (fun u hu => ?_)
  · rcases b6 with ⟨-, z⟩ | ⟨-, z, -⟩
    · exact z u
    · exact z u (Or.inl hu)
