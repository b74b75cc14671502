/-! tell, show: the class's; as, tell, show: the reference's -/
theorem ztl_1 {k y s kd th un : Int32} (h : ¬ (0 ≤ k.toInt ∧ k.toInt < 6)) : ztlV k y s kd th un = (-1, 0) := if_pos h
theorem ztl_3 {k y s kd th un : Int32} (h : 0 ≤ k.toInt ∧ k.toInt < 6) (h3 : y.toInt < 0) : ztlV k y s kd th un = (-11, 1) := by
  unfold ztlV
  rw [if_neg (fun z => z h), if_pos h3]
theorem ztl_4 {k y s kd th un : Int32} (h : 0 ≤ k.toInt ∧ k.toInt < 6) (h3 : y.toInt = 0) : ztlV k y s kd th un = (s, 0) := by
  unfold ztlV
  rw [if_neg (fun z => z h), if_neg (by omega), if_pos h3]
theorem ztl_5 {k y s kd th un : Int32} (h : 0 ≤ k.toInt ∧ k.toInt < 6) (h3 : ¬ y.toInt < 0) (h4 : ¬ y.toInt = 0) : ztlV k y s kd th un = (ztdV kd th un, 0) := by
  unfold ztlV
  rw [if_neg (fun z => z h), if_neg h3, if_neg h4]
theorem zsw_1 {k y x kd : Int32} (h : ¬ (0 ≤ k.toInt ∧ k.toInt < 6)) : zswV k y x kd = (-1, 0) := if_pos h
theorem zsw_3 {k y x kd : Int32} (h : 0 ≤ k.toInt ∧ k.toInt < 6) (h3 : y.toInt < 0) : zswV k y x kd = (-11, 1) := by
  unfold zswV
  rw [if_neg (fun z => z h), if_pos h3]
theorem zsw_4 {k y x kd : Int32} (h : 0 ≤ k.toInt ∧ k.toInt < 6) (h3 : y.toInt = 0) : zswV k y x kd = (-12, 2) := by
  unfold zswV
  rw [if_neg (fun z => z h), if_neg (by omega), if_pos h3]
theorem zsw_5 {k y x kd : Int32} (h : 0 ≤ k.toInt ∧ k.toInt < 6) (h3 : ¬ y.toInt < 0) (h4 : ¬ y.toInt = 0) : zswV k y x kd = (zshV kd x, 0) := by
  unfold zswV
  rw [if_neg (fun z => z h), if_neg h3, if_neg h4]
/-- the trail after a telling, a showing: what its one cell holds -/
def zt1 (t x : Int32) : Int32 := Int32.ofInt 31 * t + x
def ztdT (t kd : Int32) : Int32 := if kd.toInt = 0 then zt1 t (Int32.ofInt 2) else if kd.toInt = 1 then zt1 (zt1 t (Int32.ofInt 3)) (Int32.ofInt 2) else zt1 (zt1 t (Int32.ofInt 4)) (Int32.ofInt 2)
def zshT (t kd : Int32) : Int32 := if kd.toInt = 0 then zt1 t (Int32.ofInt 5) else if kd.toInt = 1 then zt1 (zt1 t (Int32.ofInt 6)) (Int32.ofInt 5) else zt1 (zt1 (zt1 t (Int32.ofInt 7)) (Int32.ofInt 6)) (Int32.ofInt 5)
def ztlT (t k y kd : Int32) : Int32 := if (0 ≤ k.toInt ∧ k.toInt < 6) ∧ ¬ y.toInt < 0 then (if y.toInt = 0 then zt1 t (Int32.ofInt 1) else ztdT t kd) else t
def zswT (t k y kd : Int32) : Int32 := if (0 ≤ k.toInt ∧ k.toInt < 6) ∧ ¬ y.toInt < 0 ∧ ¬ y.toInt = 0 then zshT t kd else t
theorem zuI_zuI {A : zW} {q k : Nat} {u v : Int32} : zuI (zuI A q k u) q k v = zuI A q k v := by
  refine Prod.ext (funext fun j => funext fun x => ?_) rfl
  show (bif Nat.beq j q && Nat.beq x k then v else (bif Nat.beq j q && Nat.beq x k then u else zI A j x)) = (bif Nat.beq j q && Nat.beq x k then v else zI A j x)
  cases (Nat.beq j q && Nat.beq x k) <;> rfl
theorem zuI_self {A : zW} {q k : Nat} {v : Int32} (h : v = zI A q k) : zuI A q k v = A := by
  refine Prod.ext (funext fun j => funext fun x => ?_) rfl
  show (bif Nat.beq j q && Nat.beq x k then v else zI A j x) = zI A j x
  by_cases e1 : j = q
  · by_cases e2 : x = k
    · rw [e1, e2, nbT, nbT, h]
      rfl
    · rw [nbF e2, Bool.and_false]
      rfl
  · rw [nbF e1]
    rfl
theorem zmk2 {A : zW} {x y : Int32} : zmk (zmk A x) y = zuI A 342 0 (zt1 (zt1 (zI A 342 0) x) y) := zuI_zuI
theorem ztdU_e {A : zW} {kd : Int32} : ztdU A kd = zuI A 342 0 (ztdT (zI A 342 0) kd) := by
  unfold ztdU ztdT
  by_cases h0 : kd.toInt = 0
  · rw [if_pos h0, if_pos h0]
    rfl
  · rw [if_neg h0, if_neg h0]
    by_cases h1 : kd.toInt = 1
    · rw [if_pos h1, if_pos h1]
      exact zmk2
    · rw [if_neg h1, if_neg h1]
      exact zmk2
theorem zshU_e {A : zW} {kd : Int32} : zshU A kd = zuI A 342 0 (zshT (zI A 342 0) kd) := by
  unfold zshU zshT
  by_cases h0 : kd.toInt = 0
  · rw [if_pos h0, if_pos h0]
    rfl
  · rw [if_neg h0, if_neg h0]
    by_cases h1 : kd.toInt = 1
    · rw [if_pos h1, if_pos h1]
      exact zmk2
    · rw [if_neg h1, if_neg h1, zmk2]
      exact zuI_zuI
/-- an answer, a fault, the trail -/
def ztQ (q k p i : Nat) (V : Value → Value) (R : Int32 × Int32) (t : Int32) (A : zW) (rv : Option Value) (A' : zW) : Prop := rv = some (.int R.1) ∧ A' = zuI (zuF A q k (V (.int R.2))) p i t
def ztc (R : Int32 × Int32) (t : Int32) (A : zW) (rv : Option Value) (A' : zW) : Prop := rv = some (.int R.1) ∧ A' = zuI (zuF A 0 14 (.int R.2)) 342 0 t
theorem ztc_e {R : Int32 × Int32} {t v f : Int32} {A : zW} (h : R = (v, f)) (ht : t = zI A 342 0) : ztc R t A (some (.int v)) (zuF A 0 14 (.int f)) := by
  rw [h]
  exact ⟨rfl, (zuI_self (A := zuF A 0 14 (.int f)) ht).symm⟩
theorem ztc_2 {R : Int32 × Int32} {t v f : Int32} {A : zW} {u : Value} (h : R = (v, f)) (ht : t = zI A 342 0) : ztc R t A (some (.int v)) (zuF (zuF A 0 14 u) 0 14 (.int f)) := by
  rw [h, zuF_zuF]
  exact ⟨rfl, (zuI_self (A := zuF A 0 14 (.int f)) ht).symm⟩
abbrev ztlA : Type := Int32 × zhlA
def ztl_F (q : Nat) : ztlA → List Value := fun (k, _) => [.ref q, .int k]
def ztl_P : ztlA → zW → Prop := fun (k, y, x, s, kd, th, un) A => (0 ≤ k.toInt ∧ k.toInt < 6) → zhl A k.toInt.toNat y x s kd th un
def zq_tell : zQ := zs (ztl_F 0) ztl_P (fun (k, y, _, s, kd, th, un) A rv A' => ztc (ztlV k y s kd th un) (ztlT (zI A 342 0) k y kd) A rv A')
theorem ztlT_n {t k y kd : Int32} (h : ¬ ((0 ≤ k.toInt ∧ k.toInt < 6) ∧ ¬ y.toInt < 0)) : ztlT t k y kd = t := if_neg h
theorem zswT_n {t k y kd : Int32} (h : ¬ ((0 ≤ k.toInt ∧ k.toInt < 6) ∧ ¬ y.toInt < 0 ∧ ¬ y.toInt = 0)) : zswT t k y kd = t := if_neg h
theorem zgE_set {A : zW} {j q k : Nat} {v : Value} {e s : Int32} (h : zgE A j e s) (hq : q < 385) : zgE (zuF A q k v) j e s := by
  obtain ⟨h1, h2, h3, h4⟩ := h
  exact ⟨h1, h2, (zuF_ne (by omega)).trans h3, (zuF_ne (by omega)).trans h4⟩
theorem zgR_set {A : zW} {j q k : Nat} {v : Value} {kd r th un : Int32} (h : zgR A j kd r th un) (hq : q < 385) : zgR (zuF A q k v) j kd r th un := by
  obtain ⟨h1, h2, h3, h4, h5⟩ := h
  exact ⟨h1, h2, (zuF_ne (by omega)).trans h3, (zuF_ne (by omega)).trans h4, (zuF_ne (by omega)).trans h5⟩
set_option maxRecDepth 20000 in
set_option maxHeartbeats 8000000 in
theorem za_X11_tell : zdo r_X11_tell zq_tell := by
  refine zdo_of _ _ _ [(1204, 1, q_isHold), (312, 2, zq_faulted), (1233, 2, zq_told)] (fun _ _ => []) 80 fo_X11 rfl (zs_cons rfl za_X11_isHold (zs_cons rfl za_X11_faulted (zs_cons rfl za_told zs_nil))) k_X11_tell (fun _ _ _ => no_zh) (fun a A hp => ?_)
  obtain ⟨k, y, x, s, kd, th, un⟩ := a
  have hp : (0 ≤ k.toInt ∧ k.toInt < 6) → zhl A k.toInt.toNat y x s kd th un := hp
  refine ⟨rfl, k, rfl, trivial, fun h => ?_, fun h => ?_⟩
  rotate_left
  · have hk := zb_n (Classical.not_not.mp h)
    exact ztc_e (ztl_1 hk) (ztlT_n (fun z => hk z.1))
  have hk := zb_y h
  have e : zrl (zuF A 0 14 (.int (Int32.ofInt 0))) 334 k.toInt.toNat = zR A 334 k.toInt.toNat := zrl_334
  refine ⟨fun h4 => ?_, fun h4 => ?_⟩
  · have h4 : ¬ zrl (zuF A 0 14 (.int (Int32.ofInt 0))) 334 k.toInt.toNat = .null := h4
    rw [e] at h4
    rcases hp hk with ⟨-, g⟩ | ⟨hy, j, g, g1⟩ | ⟨hy, hd, j, g, g1⟩
    · exact absurd g h4
    · refine ⟨j, ?_, Or.inl ⟨x, s, zgE_set g1 (by decide), ?_⟩⟩
      · show [zrl (zuF A 0 14 (.int (Int32.ofInt 0))) 334 k.toInt.toNat, .ref 342] = _
        rw [e, g]
      · show ztc (ztlV k y s kd th un) _ A (some (.int s)) (zmk (zuF A 0 14 (.int (Int32.ofInt 0))) (Int32.ofInt 1))
        rw [ztl_4 hk hy]
        refine ⟨rfl, ?_⟩
        have et : ztlT (zI A 342 0) k y kd = zt1 (zI A 342 0) (Int32.ofInt 1) := by
          unfold ztlT
          rw [if_pos ⟨hk, by omega⟩, if_pos hy]
        rw [et]
        rfl
    · refine ⟨j, ?_, Or.inr ⟨kd, x, th, un, zgR_set g1 (by decide), ?_⟩⟩
      · show [zrl (zuF A 0 14 (.int (Int32.ofInt 0))) 334 k.toInt.toNat, .ref 342] = _
        rw [e, g]
      · show ztc (ztlV k y s kd th un) _ A (some (.int (ztdV kd th un))) (ztdU (zuF A 0 14 (.int (Int32.ofInt 0))) kd)
        rw [ztl_5 hk (by omega) (by omega), ztdU_e]
        refine ⟨rfl, ?_⟩
        have et : ztlT (zI A 342 0) k y kd = ztdT (zI A 342 0) kd := by
          unfold ztlT
          rw [if_pos ⟨hk, by omega⟩, if_neg (by omega)]
        rw [et]
        rfl
  · have h4 : ¬ ¬ zrl (zuF A 0 14 (.int (Int32.ofInt 0))) 334 k.toInt.toNat = .null := fun z => z h4
    rw [e] at h4
    have h4 := Classical.not_not.mp h4
    have hy : y.toInt < 0 := by
      rcases hp hk with ⟨hy, -⟩ | ⟨-, j, g, -⟩ | ⟨-, -, j, g, -⟩
      · exact hy
      · rw [h4] at g
        cases g
      · rw [h4] at g
        cases g
    refine ⟨Int32.ofInt 1, rfl, trivial, ?_⟩
    show ztc _ _ A (some (.int (Int32.ofInt (-10) - Int32.ofInt 1))) (zuF (zuF A 0 14 (.int (Int32.ofInt 0))) 0 14 (.int (Int32.ofInt 1)))
    rw [z11]
    exact ztc_2 (ztl_3 hk hy) (ztlT_n (fun z => z.2 hy))
def zq_show : zQ := zs (ztl_F 0) ztl_P (fun (k, y, x, _, kd, _, _) A rv A' => ztc (zswV k y x kd) (zswT (zI A 342 0) k y kd) A rv A')
theorem zkS_k {kd : Int32} (hd : 0 ≤ kd.toInt ∧ kd.toInt ≤ 2) : zkS (zkC kd) := by
  rcases (show kd.toInt = 0 ∨ kd.toInt = 1 ∨ kd.toInt = 2 by omega) with hd | hd | hd
  · exact Or.inl (zkC_0 hd)
  · exact Or.inr (Or.inl (zkC_1 (by omega) hd))
  · exact Or.inr (Or.inr (zkC_2 (by omega) (by omega)))
theorem zki_288 {kd : Int32} (hd : 0 ≤ kd.toInt ∧ kd.toInt ≤ 2) : kci il_X11 288 (zkC kd) = 1 := by
  rcases zkS_k hd with z | z | z <;> rw [z] <;> decide
set_option maxRecDepth 20000 in
set_option maxHeartbeats 8000000 in
theorem za_X11_show : zdo r_X11_show zq_show := by
  refine zdo_of _ _ _ [(1204, 1, q_isHold), (312, 2, zq_faulted), (1245, 2, zq_shown)] (fun _ _ => []) 80 fo_X11 rfl (zs_cons rfl za_X11_isHold (zs_cons rfl za_X11_faulted (zs_cons rfl za_shown zs_nil))) k_X11_show (fun _ _ _ => no_zh) (fun a A hp => ?_)
  obtain ⟨k, y, x, s, kd, th, un⟩ := a
  have hp : (0 ≤ k.toInt ∧ k.toInt < 6) → zhl A k.toInt.toNat y x s kd th un := hp
  refine ⟨rfl, k, rfl, trivial, fun h => ?_, fun h => ?_⟩
  rotate_left
  · have hk := zb_n (Classical.not_not.mp h)
    exact ztc_e (zsw_1 hk) (zswT_n (fun z => hk z.1))
  have hk := zb_y h
  have e : zrl (zuF A 0 14 (.int (Int32.ofInt 0))) 334 k.toInt.toNat = zR A 334 k.toInt.toNat := zrl_334
  refine ⟨fun h4 => ⟨fun h5 => ?_, fun h5 => ?_⟩, fun h4 => ?_⟩
  · have h4 : ¬ zrl (zuF A 0 14 (.int (Int32.ofInt 0))) 334 k.toInt.toNat = .null := h4
    have h5 : (Int32.ofNat (kci il_X11 288 (zkd A (rv_ (zrl (zuF A 0 14 (.int (Int32.ofInt 0))) 334 k.toInt.toNat))))).toInt = 0 := h5
    rw [e] at h4 h5
    rcases hp hk with ⟨-, g⟩ | ⟨hy, j, g, g1⟩ | ⟨hy, hd, j, g, g1⟩
    · exact absurd g h4
    · refine ⟨Int32.ofInt 2, rfl, trivial, ?_⟩
      show ztc _ _ A (some (.int (Int32.ofInt (-10) - Int32.ofInt 2))) (zuF (zuF A 0 14 (.int (Int32.ofInt 0))) 0 14 (.int (Int32.ofInt 2)))
      rw [z12]
      exact ztc_2 (zsw_4 hk hy) (zswT_n (fun z => z.2.2 hy))
    · exfalso
      rw [g] at h5
      have h5 : (Int32.ofNat (kci il_X11 288 (zkd A j))).toInt = 0 := h5
      rw [zkd_d g1.1, g1.2.1] at h5
      have h5 : (Int32.ofNat (kci il_X11 288 (zkC kd))).toInt = 0 := h5
      rw [zki_288 hd] at h5
      exact absurd h5 (by decide)
  · have h4 : ¬ zrl (zuF A 0 14 (.int (Int32.ofInt 0))) 334 k.toInt.toNat = .null := h4
    have h5 : ¬ (Int32.ofNat (kci il_X11 288 (zkd A (rv_ (zrl (zuF A 0 14 (.int (Int32.ofInt 0))) 334 k.toInt.toNat))))).toInt = 0 := h5
    rw [e] at h4 h5
    rcases hp hk with ⟨-, g⟩ | ⟨hy, j, g, g1⟩ | ⟨hy, hd, j, g, g1⟩
    · exact absurd g h4
    · exfalso
      apply h5
      rw [g]
      show (Int32.ofNat (kci il_X11 288 (zkd A j))).toInt = 0
      rw [zkd_d g1.1, g1.2.1]
      decide
    · refine ⟨j, ?_, kd, x, th, un, zgR_set g1 (by decide), ?_⟩
      · show [zrl (zuF A 0 14 (.int (Int32.ofInt 0))) 334 k.toInt.toNat, .ref 342] = _
        rw [e, g]
      · show ztc (zswV k y x kd) _ A (some (.int (zshV kd x))) (zshU (zuF A 0 14 (.int (Int32.ofInt 0))) kd)
        rw [zsw_5 hk (by omega) (by omega), zshU_e]
        refine ⟨rfl, ?_⟩
        have et : zswT (zI A 342 0) k y kd = zshT (zI A 342 0) kd := by
          unfold zswT
          rw [if_pos ⟨hk, by omega, by omega⟩]
        rw [et]
        rfl
  · have h4 : ¬ ¬ zrl (zuF A 0 14 (.int (Int32.ofInt 0))) 334 k.toInt.toNat = .null := fun z => z h4
    rw [e] at h4
    have h4 := Classical.not_not.mp h4
    have hy : y.toInt < 0 := by
      rcases hp hk with ⟨hy, -⟩ | ⟨-, j, g, -⟩ | ⟨-, -, j, g, -⟩
      · exact hy
      · rw [h4] at g
        cases g
      · rw [h4] at g
        cases g
    refine ⟨Int32.ofInt 1, rfl, trivial, ?_⟩
    show ztc _ _ A (some (.int (Int32.ofInt (-10) - Int32.ofInt 1))) (zuF (zuF A 0 14 (.int (Int32.ofInt 0))) 0 14 (.int (Int32.ofInt 1)))
    rw [z11]
    exact ztc_2 (zsw_3 hk hy) (zswT_n (fun z => z.2.1 hy))
/-! the reference's -/
def zq_refused : zQ := zfu (fun x : Int32 => [.ref 343, .int x]) (fun _ _ => True) (fun x _ => some (.int x)) (fun _ A => zuF A 343 0 (.int (Int32.ofInt 0)))
set_option maxRecDepth 20000 in
theorem za_X12_refused : zdo r_X12_refused zq_refused := by
  refine zdo_fu [] (fun _ _ => []) 40 fo_X12 rfl zs_nil k_X12_refused (fun _ _ _ => no_zh) (fun x A _ => ?_)
  exact ⟨rfl, rfl, rfl⟩
def zq_failed : zQ := zfu (fun x : Int32 => [.ref 343, .int x]) (fun _ _ => True) (fun x _ => some (.int (Int32.ofInt (-10) - x))) (fun x A => zuF A 343 0 (.int x))
set_option maxRecDepth 20000 in
theorem za_X12_failed : zdo r_X12_failed zq_failed := by
  refine zdo_fu [] (fun _ _ => []) 40 fo_X12 rfl zs_nil k_X12_failed (fun _ _ _ => no_zh) (fun x A _ => ?_)
  exact ⟨rfl, rfl, rfl⟩
/-- it leaves its number -/
def zmm (A : zW) (x : Int32) : zW := zuF A 343 63 (.int (Int32.ofInt 31 * iv (zF A 343 63) + x))
def zq_traced : zQ := zfu (fun x : Int32 => [.ref 343, .int x]) (fun _ _ => True) (fun _ _ => none) (fun x A => zmm A x)
set_option maxRecDepth 20000 in
theorem za_X12_traced : zdo r_X12_traced zq_traced := by
  refine zdo_fu [] (fun _ _ => []) 40 fo_X12 rfl zs_nil k_X12_traced (fun _ _ _ => no_zh) (fun x A _ => ?_)
  exact ⟨rfl, rfl, rfl⟩
def zq_asM : zQ := zs (fun a : Int32 × Int32 => [.ref 343, .int a.1, .int a.2]) (fun _ _ => True) (fun a A rv A' => zfQ 343 0 (zasV a.1 a.2 (zI A 379 a.1.toInt.toNat) (zI A 380 a.1.toInt.toNat) (zI A 357 (zI A 380 a.1.toInt.toNat).toInt.toNat)) A rv A')
set_option maxRecDepth 20000 in
set_option maxHeartbeats 8000000 in
theorem za_X12_as : zdo r_X12_as zq_asM := by
  refine zdo_of _ _ _ [(1423, 1, q_noHold), (615, 2, zq_refused), (630, 2, zq_failed), (457, 3, zq_in)] (fun _ _ => []) 80 fo_X12 rfl (zs_cons rfl za_X12_noHold (zs_cons rfl za_X12_refused (zs_cons rfl za_X12_failed (zs_cons rfl za_X12_in zs_nil)))) k_X12_as (fun _ _ _ => no_zh) (fun a A hp => ?_)
  obtain ⟨k, kind⟩ := a
  have e0 := ze0
  have e3 : (Int64.ofInt 3).toInt = 3 := by decide
  have ek := Int32.toInt_toInt64 kind
  have e1 : (Int32.ofInt 1).toInt = 1 := by decide
  refine ⟨k, rfl, trivial, fun h => ?_, fun h => ?_⟩
  rotate_left
  · exact ⟨Int32.ofInt (-1), rfl, trivial, zq_flt_e (zas_1 (zb_y h))⟩
  have hk := Classical.not_not.mp (zb_n h)
  refine ⟨(kind.toInt64, Int64.ofNat 0, Int64.ofInt 3), rfl, trivial, fun h => ?_, fun h => ?_⟩
  rotate_left
  · have h := zb_n (Classical.not_not.mp h)
    exact ⟨Int32.ofInt (-2), rfl, trivial, zq_flt_e (zas_2 hk (fun z : 0 ≤ kind.toInt ∧ kind.toInt ≤ 3 => h ⟨by show (Int64.ofNat 0).toInt ≤ kind.toInt64.toInt; omega, by show kind.toInt64.toInt ≤ (Int64.ofInt 3).toInt; omega⟩))⟩
  have hi0 : (Int64.ofNat 0).toInt ≤ kind.toInt64.toInt ∧ kind.toInt64.toInt ≤ (Int64.ofInt 3).toInt := zb_y h
  have hi : 0 ≤ kind.toInt ∧ kind.toInt ≤ 3 := ⟨by omega, by omega⟩
  have bad : ¬ (zI A 379 k.toInt.toNat).toInt < 0 → ¬ ((kind.toInt = 0 ∧ (zI A 379 k.toInt.toNat).toInt = 0) ∨ (¬ kind.toInt = 0 ∧ (zI A 379 k.toInt.toNat).toInt = 1 ∧ kind.toInt - 1 ≤ (zI A 357 (zI A 380 k.toInt.toNat).toInt.toNat).toInt)) → zfQ 343 0 (zasV k kind (zI A 379 k.toInt.toNat) (zI A 380 k.toInt.toNat) (zI A 357 (zI A 380 k.toInt.toNat).toInt.toNat)) A (some (.int (Int32.ofInt (-10) - Int32.ofInt 2))) (zuF A 343 0 (.int (Int32.ofInt 2))) := fun h1 h2 => by
    rw [z12]
    exact zq_flt_e (zas_5 hk hi h1 h2)
  have good : ¬ (zI A 379 k.toInt.toNat).toInt < 0 → ((kind.toInt = 0 ∧ (zI A 379 k.toInt.toNat).toInt = 0) ∨ (¬ kind.toInt = 0 ∧ (zI A 379 k.toInt.toNat).toInt = 1 ∧ kind.toInt - 1 ≤ (zI A 357 (zI A 380 k.toInt.toNat).toInt.toNat).toInt)) → zfQ 343 0 (zasV k kind (zI A 379 k.toInt.toNat) (zI A 380 k.toInt.toNat) (zI A 357 (zI A 380 k.toInt.toNat).toInt.toNat)) A (some (.int (zI A 380 k.toInt.toNat))) (zuF A 343 0 (.int (Int32.ofInt 0))) := fun h1 h2 => zq_flt_e (zas_4 hk hi h1 h2)
  have ki1 : (kind - Int32.ofInt 1).toInt = kind.toInt - 1 := by
    rw [Int32.toInt_sub, e1]
    exact Int.bmod_eq_of_le (by omega) (by omega)
  have no0 : ¬ ¬ (Int32.ofInt 0).toInt = 0 → (0 : Int) = 0 := fun _ => rfl
  refine ⟨fun h => ?_, fun h => ?_⟩
  rotate_left
  · have h : ¬ 0 ≤ (zI A 379 k.toInt.toNat).toInt := h
    refine ⟨Int32.ofInt 1, rfl, trivial, ?_⟩
    show zfQ 343 0 _ A (some (.int (Int32.ofInt (-10) - Int32.ofInt 1))) (zuF A 343 0 (.int (Int32.ofInt 1)))
    rw [z11]
    exact zq_flt_e (zas_3 hk hi (show (zI A 379 k.toInt.toNat).toInt < 0 by omega))
  have h : 0 ≤ (zI A 379 k.toInt.toNat).toInt := h
  have hn : ¬ (zI A 379 k.toInt.toNat).toInt < 0 := by omega
  refine ⟨fun h2 => ⟨fun h3 => ⟨fun h6 => ?_, fun h6 => ?_⟩, fun h3 => ⟨fun h4 => ⟨fun h6 => ?_, fun h6 => ?_⟩, fun h4 => ⟨fun h6 => ?_, fun h6 => ?_⟩⟩⟩, fun h2 => ⟨fun h3 => ⟨fun h6 => ?_, fun h6 => ?_⟩, fun h3 => ⟨fun h6 => ?_, fun h6 => ?_⟩⟩⟩
  · have h2 : ¬ kind.toInt = 0 := h2
    have h3 : ¬ (zI A 379 k.toInt.toNat).toInt = (Int32.ofInt 1).toInt := h3
    exact ⟨Int32.ofInt 2, rfl, trivial, bad hn (fun z => by
      rcases z with ⟨a, -⟩ | ⟨-, b, -⟩ <;> omega)⟩
  · exact absurd (show (Int32.ofInt 0).toInt = 0 by decide) h6
  · have h2 : ¬ kind.toInt = 0 := h2
    have h4 : (zI A 357 (zI A 380 k.toInt.toNat).toInt.toNat).toInt < (kind - Int32.ofInt 1).toInt := h4
    rw [ki1] at h4
    exact ⟨Int32.ofInt 2, rfl, trivial, bad hn (fun z => by
      rcases z with ⟨a, -⟩ | ⟨-, -, b⟩ <;> omega)⟩
  · exact absurd (show (Int32.ofInt 0).toInt = 0 by decide) h6
  · exact absurd (show (Int32.ofInt 1).toInt = 0 from h6) (by decide)
  · have h2 : ¬ kind.toInt = 0 := h2
    have h3 : ¬ ¬ (zI A 379 k.toInt.toNat).toInt = (Int32.ofInt 1).toInt := h3
    have h4 : ¬ (zI A 357 (zI A 380 k.toInt.toNat).toInt.toNat).toInt < (kind - Int32.ofInt 1).toInt := h4
    rw [ki1] at h4
    exact ⟨zI A 380 k.toInt.toNat, rfl, trivial, good hn (Or.inr ⟨h2, by omega, by omega⟩)⟩
  · have h2 : ¬ ¬ kind.toInt = 0 := h2
    have h3 : ¬ (zI A 379 k.toInt.toNat).toInt = 0 := h3
    exact ⟨Int32.ofInt 2, rfl, trivial, bad hn (fun z => by
      rcases z with ⟨-, a⟩ | ⟨a, -⟩ <;> omega)⟩
  · exact absurd (show (Int32.ofInt 0).toInt = 0 by decide) h6
  · exact absurd (show (Int32.ofInt 1).toInt = 0 from h6) (by decide)
  · have h2 : ¬ ¬ kind.toInt = 0 := h2
    have h3 : ¬ ¬ (zI A 379 k.toInt.toNat).toInt = 0 := h3
    exact ⟨zI A 380 k.toInt.toNat, rfl, trivial, good hn (Or.inl ⟨by omega, by omega⟩)⟩
