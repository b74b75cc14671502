/-! what a hold has: as, tell, show, over places -/
theorem fo_X4n : f_ok5 fl_X4 pl_X4 nw_X4 kl_X4 il_X4 = true := by decide +kernel
theorem fo_X8n : f_ok5 fl_X8 pl_X8 nw_X8 kl_X8 il_X8 = true := by decide +kernel
theorem fo_X0n : f_ok5 fl_X0 pl_X0 nw_X0 kl_X0 il_X0 = true := by decide +kernel
theorem fo_X5n : f_ok5 fl_X5 pl_X5 nw_X5 kl_X5 il_X5 = true := by decide +kernel
theorem fo_X10n : f_ok5 fl_X10 pl_X10 nw_X10 kl_X10 il_X10 = true := by decide +kernel
/-- a body leaves its number -/
def zmk (A : zW) (x : Int32) : zW := zuI A 342 0 (Int32.ofInt 31 * zI A 342 0 + x)
def zq_mark : zQ := zfu (fun x : Int32 => [.ref 342, .int x]) (fun _ _ => True) (fun _ _ => none) (fun x A => zmk A x)
set_option maxRecDepth 20000 in
theorem za_X10_mark : zdo r_X10_mark zq_mark := by
  refine zdo_fu [] (fun _ _ => []) 40 fo_X10n rfl zs_nil k_X10_mark (fun _ _ _ => no_zh) (fun x A hp => ?_)
  refine ⟨fun h => ?_, fun h => ⟨rfl, rfl⟩⟩
  have h : (Int32.ofNat 1).toInt ≤ 0 := h
  exact absurd h (by decide)
/-- told: the number that comes, the bodies that leave theirs -/
abbrev zteA : Type := Nat × Int32
def zq_toldE : zQ := zfu (fun a : zteA => [.ref a.1, .ref 342]) (fun a A => 385 ≤ a.1 ∧ (zK A a.1).1 = 4 ∧ zF A a.1 1 = .int a.2) (fun a _ => some (.int a.2)) (fun _ A => zmk A (Int32.ofInt 1))
set_option maxRecDepth 20000 in
theorem za_X4_told : zdo r_X4_told zq_toldE := by
  refine zdo_fu [(91, 2, zq_mark)] (fun _ _ => []) 40 fo_X4n rfl (zs_cons rfl za_X10_mark zs_nil) k_X4_told (fun _ _ _ => no_zh) (fun a A hp => ?_)
  obtain ⟨j, s⟩ := a
  obtain ⟨hj, hc, hs⟩ := hp
  have hj : 385 ≤ j := hj
  have hc : (zK A j).1 = 4 := hc
  have hs : zF A j 1 = .int s := hs
  refine ⟨Int32.ofInt 1, rfl, trivial, ?_, rfl⟩
  show some (zfl A j (kfd fl_X4 9 (zkd A j))) = some (.int s)
  rw [zkd_d hj, hc, zfl_d hj]
  exact congrArg some hs
/-- a rule's plain body -/
def zq_plainly : zQ := zfu (fun a : Nat × Nat × Int32 => [.ref a.1, .ref 342]) (fun a A => 385 ≤ a.1 ∧ (zK A a.1).1 = a.2.1 ∧ zF A a.1 (kfd fl_X8 13 a.2.1) = .int a.2.2) (fun a _ => some (.int a.2.2)) (fun _ A => zmk A (Int32.ofInt 2))
set_option maxRecDepth 20000 in
theorem za_X8_plainly : zdo r_X8_plainly zq_plainly := by
  refine zdo_fu [(79, 2, zq_mark)] (fun _ _ => []) 40 fo_X8n rfl (zs_cons rfl za_X10_mark zs_nil) k_X8_plainly (fun _ _ _ => no_zh) (fun a A hp => ?_)
  obtain ⟨j, ci, s⟩ := a
  obtain ⟨hj, hc, hs⟩ := hp
  have hj : 385 ≤ j := hj
  have hc : (zK A j).1 = ci := hc
  refine ⟨Int32.ofInt 2, rfl, trivial, ?_, rfl⟩
  show some (zfl A j (kfd fl_X8 13 (zkd A j))) = some (.int s)
  rw [zkd_d hj, hc, zfl_d hj]
  exact congrArg some hs
set_option maxRecDepth 20000 in
theorem za_X8_told : zdo r_X8_told zq_plainly := by
  refine zdo_fu [(66, 2, zq_plainly)] (fun _ _ => []) 40 fo_X8n rfl (zs_cons rfl za_X8_plainly zs_nil) k_X8_told (fun _ _ _ => no_zh) (fun a A hp => ?_)
  exact ⟨a, rfl, hp, rfl, rfl⟩
def zq_toldB : zQ := zfu (fun a : Nat × Int32 × Int32 => [.ref a.1, .ref 342]) (fun a A => 385 ≤ a.1 ∧ (zK A a.1).1 = 0 ∧ zF A a.1 1 = .int a.2.1 ∧ zF A a.1 2 = .int a.2.2) (fun a _ => some (.int (a.2.1 + a.2.2))) (fun _ A => zmk (zmk A (Int32.ofInt 3)) (Int32.ofInt 2))
set_option maxRecDepth 20000 in
theorem za_X0_told : zdo r_X0_told zq_toldB := by
  refine zdo_fu [(22, 2, zq_mark), (39, 2, zq_plainly)] (fun _ _ => []) 40 fo_X0n rfl (zs_cons rfl za_X10_mark (zs_cons rfl za_X8_plainly zs_nil)) k_X0_told (fun _ _ _ => no_zh) (fun a A hp => ?_)
  obtain ⟨j, s, u⟩ := a
  obtain ⟨hj, hc, hs, hu⟩ := hp
  have hj : 385 ≤ j := hj
  have hc : (zK A j).1 = 0 := hc
  have hu : zF A j 2 = .int u := hu
  refine ⟨Int32.ofInt 3, rfl, trivial, (j, 0, s), rfl, ⟨hj, hc, hs⟩, ?_, rfl⟩
  show some (Value.int (s + iv (zfl A j (kfd fl_X0 17 (zkd A j))))) = some (.int (s + u))
  rw [zkd_d hj, hc, zfl_d hj, show zF A j (kfd fl_X0 17 0) = .int u from hu]
  rfl
def zq_toldL : zQ := zfu (fun a : Nat × Int32 => [.ref a.1, .ref 342]) (fun a A => 385 ≤ a.1 ∧ (zK A a.1).1 = 5 ∧ zF A a.1 1 = .int a.2) (fun a _ => some (.int (-a.2 - Int32.ofInt 1))) (fun _ A => zmk (zmk A (Int32.ofInt 4)) (Int32.ofInt 2))
set_option maxRecDepth 20000 in
theorem za_X5_told : zdo r_X5_told zq_toldL := by
  refine zdo_fu [(22, 2, zq_mark), (39, 2, zq_plainly)] (fun _ _ => []) 40 fo_X5n rfl (zs_cons rfl za_X10_mark (zs_cons rfl za_X8_plainly zs_nil)) k_X5_told (fun _ _ _ => no_zh) (fun a A hp => ?_)
  obtain ⟨j, s⟩ := a
  obtain ⟨hj, hc, hs⟩ := hp
  exact ⟨Int32.ofInt 4, rfl, trivial, (j, 5, s), rfl, ⟨hj, hc, hs⟩, rfl, rfl⟩
/-- shown -/
def zq_shownR : zQ := zfu (fun a : Nat × Nat × Int32 => [.ref a.1, .ref 342]) (fun a A => 385 ≤ a.1 ∧ (zK A a.1).1 = a.2.1 ∧ zF A a.1 (kfd fl_X8 30 a.2.1) = .int a.2.2) (fun a _ => some (.int a.2.2)) (fun _ A => zmk A (Int32.ofInt 5))
set_option maxRecDepth 20000 in
theorem za_X8_shown : zdo r_X8_shown zq_shownR := by
  refine zdo_fu [(79, 2, zq_mark)] (fun _ _ => []) 40 fo_X8n rfl (zs_cons rfl za_X10_mark zs_nil) k_X8_shown (fun _ _ _ => no_zh) (fun a A hp => ?_)
  obtain ⟨j, ci, s⟩ := a
  obtain ⟨hj, hc, hs⟩ := hp
  have hj : 385 ≤ j := hj
  have hc : (zK A j).1 = ci := hc
  refine ⟨Int32.ofInt 5, rfl, trivial, ?_, rfl⟩
  show some (zfl A j (kfd fl_X8 30 (zkd A j))) = some (.int s)
  rw [zkd_d hj, hc, zfl_d hj]
  exact congrArg some hs
def zq_shownB : zQ := zfu (fun a : Nat × Nat × Int32 => [.ref a.1, .ref 342]) (fun a A => 385 ≤ a.1 ∧ (zK A a.1).1 = a.2.1 ∧ zF A a.1 (kfd fl_X8 30 a.2.1) = .int a.2.2) (fun a _ => some (.int (Int32.ofInt 100 + a.2.2))) (fun _ A => zmk (zmk A (Int32.ofInt 6)) (Int32.ofInt 5))
set_option maxRecDepth 20000 in
theorem za_X0_shown : zdo r_X0_shown zq_shownB := by
  refine zdo_fu [(22, 2, zq_mark), (65, 2, zq_shownR)] (fun _ _ => []) 40 fo_X0n rfl (zs_cons rfl za_X10_mark (zs_cons rfl za_X8_shown zs_nil)) k_X0_shown (fun _ _ _ => no_zh) (fun a A hp => ?_)
  exact ⟨Int32.ofInt 6, rfl, trivial, a, rfl, hp, rfl, rfl⟩
def zq_shownL : zQ := zfu (fun a : Nat × Nat × Int32 => [.ref a.1, .ref 342]) (fun a A => 385 ≤ a.1 ∧ (zK A a.1).1 = a.2.1 ∧ zF A a.1 (kfd fl_X8 30 a.2.1) = .int a.2.2) (fun a _ => some (.int (Int32.ofInt 1000 + (Int32.ofInt 100 + a.2.2)))) (fun _ A => zmk (zmk (zmk A (Int32.ofInt 7)) (Int32.ofInt 6)) (Int32.ofInt 5))
set_option maxRecDepth 20000 in
theorem za_X5_shown : zdo r_X5_shown zq_shownL := by
  refine zdo_fu [(22, 2, zq_mark), (53, 2, zq_shownB)] (fun _ _ => []) 40 fo_X5n rfl (zs_cons rfl za_X10_mark (zs_cons rfl za_X0_shown zs_nil)) k_X5_shown (fun _ _ _ => no_zh) (fun a A hp => ?_)
  exact ⟨Int32.ofInt 7, rfl, trivial, a, rfl, hp, rfl, rfl⟩
/-- a call that the receiver's type decides -/
theorem zdo_dsp {L : List (Nat × fR)} {P : zQ} (hx : ∀ x ∈ L, ∀ As ws sh rv ws' sh', x.2 As ws sh rv ws' sh' → zx ws ws') (h : ∀ x ∈ L, ∀ (As : List Value) (ws : va_W) (sh : List Nat) (rv : Option Value) (ws' : va_W) (sh' : List Nat), x.2 As ws sh rv ws' sh' → (∃ v, As[0]? = some v ∧ ck_rf ws sh [x.1] v) → ∀ (A : zW) (Us : List Value) (K : Option Value → zW → Prop), zA A ws sh → zvs ws As Us → P Us A K → ∃ (A' : zW) (u : Option Value), zA A' ws' sh' ∧ zvs ws' rv.toList u.toList ∧ K u A') : zdo (fdsp L) P := by
  intro As ws sh rv ws' sh' hr
  obtain ⟨x, hm, hv, hd⟩ := hr
  exact ⟨hx x hm As ws sh rv ws' sh' hd, h x hm As ws sh rv ws' sh' hd hv⟩
/-- the type of the receiver, over places -/
theorem zdsp_t {A : zW} {ws : va_W} {sh : List Nat} {As Us : List Value} {t j : Nat} {l : List Value} (hA : zA A ws sh) (hv : zvs ws As Us) (hU : Us = .ref j :: l) (h : ∃ v, As[0]? = some v ∧ ck_rf ws sh [t] v) : zty A j = t := by
  subst hU
  obtain ⟨v, h0, q, a, e, t', rfl, hq, hs, ht⟩ := h
  cases As with
  | nil => cases h0
  | cons w r =>
    have h0 : w = .ref a := Option.some.inj h0
    subst h0
    obtain ⟨p, e', hp, hj⟩ := hv.1
    injection hp with hp
    subst hp
    have ej := hA.at_ hq hj
    subst ej
    have g1 := (hA.2.2 j _ _ hq).1
    rw [hs] at g1
    rw [← Option.some.inj g1]
    exact List.mem_singleton.mp ht
theorem zty_d {A : zW} {q : Nat} (h : 385 ≤ q) : zty A q = (zK A q).2 := by
  unfold zty
  rw [nltF h]
  rfl
/-- what a hold has: an entry, or a rule of a kind -/
def zgE (A : zW) (j : Nat) (e s : Int32) : Prop := 385 ≤ j ∧ zK A j = (4, 7) ∧ zF A j 0 = .int e ∧ zF A j 1 = .int s
def zgR (A : zW) (j : Nat) (kd r th un : Int32) : Prop := 385 ≤ j ∧ zK A j = (zkC kd, zkY kd) ∧ zF A j (kpd pI_X10 7 (zkC kd)) = .int r ∧ zF A j (kpd pI_X8 13 (zkC kd)) = .int th ∧ zF A j (kpd pI_X8 16 (zkC kd)) = .int un
def ztdV (kd th un : Int32) : Int32 := if kd.toInt = 0 then th else if kd.toInt = 1 then th + un else -th - Int32.ofInt 1
def ztdU (A : zW) (kd : Int32) : zW := if kd.toInt = 0 then zmk A (Int32.ofInt 2) else if kd.toInt = 1 then zmk (zmk A (Int32.ofInt 3)) (Int32.ofInt 2) else zmk (zmk A (Int32.ofInt 4)) (Int32.ofInt 2)
def zshV (kd r : Int32) : Int32 := if kd.toInt = 0 then r else if kd.toInt = 1 then Int32.ofInt 100 + r else Int32.ofInt 1000 + (Int32.ofInt 100 + r)
def zshU (A : zW) (kd : Int32) : zW := if kd.toInt = 0 then zmk A (Int32.ofInt 5) else if kd.toInt = 1 then zmk (zmk A (Int32.ofInt 6)) (Int32.ofInt 5) else zmk (zmk (zmk A (Int32.ofInt 7)) (Int32.ofInt 6)) (Int32.ofInt 5)
/-- told: of an entry (none), of a rule (its kind and so on) -/
abbrev ztdA : Type := Nat × Int32 × Int32 × Option (Int32 × Int32 × Int32 × Int32)
def zq_told : zQ := fun Us A K => ∃ j : Nat, Us = [.ref j, .ref 342] ∧ ((∃ e s : Int32, zgE A j e s ∧ K (some (.int s)) (zmk A (Int32.ofInt 1))) ∨ ∃ kd r th un : Int32, zgR A j kd r th un ∧ K (some (.int (ztdV kd th un))) (ztdU A kd))
def zq_shown : zQ := fun Us A K => ∃ j : Nat, Us = [.ref j, .ref 342] ∧ ∃ kd r th un : Int32, zgR A j kd r th un ∧ K (some (.int (zshV kd r))) (zshU A kd)
theorem zkY_8 {kd : Int32} (h : zkY kd = 8) : kd.toInt = 0 := by
  unfold zkY at h
  split at h
  · assumption
  · split at h <;> cases h
theorem zkY_9 {kd : Int32} (h : zkY kd = 9) : ¬ kd.toInt = 0 ∧ kd.toInt = 1 := by
  unfold zkY at h
  split at h
  · cases h
  · rename_i h0
    split at h
    · exact ⟨h0, by assumption⟩
    · cases h
theorem zkY_10 {kd : Int32} (h : zkY kd = 10) : ¬ kd.toInt = 0 ∧ ¬ kd.toInt = 1 := by
  unfold zkY at h
  split at h
  · cases h
  · rename_i h0
    split at h
    · cases h
    · exact ⟨h0, by assumption⟩
theorem zkC_0 {kd : Int32} (h : kd.toInt = 0) : zkC kd = 8 := if_pos h
theorem zkC_1 {kd : Int32} (h : ¬ kd.toInt = 0) (h1 : kd.toInt = 1) : zkC kd = 0 := by
  unfold zkC
  rw [if_neg h, if_pos h1]
theorem zkC_2 {kd : Int32} (h : ¬ kd.toInt = 0) (h1 : ¬ kd.toInt = 1) : zkC kd = 5 := by
  unfold zkC
  rw [if_neg h, if_neg h1]
set_option maxRecDepth 20000 in
theorem za_told : zdo (fdsp [(7, r_X4_told), (8, r_X8_told), (9, r_X0_told), (10, r_X5_told)]) zq_told := by
  refine zdo_dsp ?_ ?_
  · refine List.forall_mem_cons.mpr ⟨fun _ _ _ _ _ _ h => (za_X4_told _ _ _ _ _ _ h).1, List.forall_mem_cons.mpr ⟨fun _ _ _ _ _ _ h => (za_X8_told _ _ _ _ _ _ h).1, List.forall_mem_cons.mpr ⟨fun _ _ _ _ _ _ h => (za_X0_told _ _ _ _ _ _ h).1, List.forall_mem_cons.mpr ⟨fun _ _ _ _ _ _ h => (za_X5_told _ _ _ _ _ _ h).1, fun _ h => absurd h List.not_mem_nil⟩⟩⟩⟩
  · refine List.forall_mem_cons.mpr ⟨?_, List.forall_mem_cons.mpr ⟨?_, List.forall_mem_cons.mpr ⟨?_, List.forall_mem_cons.mpr ⟨?_, fun _ h => absurd h List.not_mem_nil⟩⟩⟩⟩
    · intro As ws sh rv ws' sh' hx ht A Us K hA hv hP
      obtain ⟨j, hU, hP⟩ := hP
      have hty := zdsp_t hA hv hU ht
      refine (za_X4_told _ _ _ _ _ _ hx).2 A Us K hA hv ?_
      rcases hP with ⟨e, s, ⟨g1, g2, g3, g4⟩, hK⟩ | ⟨kd, r, th, un, ⟨g1, g2, g3⟩, hK⟩
      · exact ⟨(j, s), hU, ⟨g1, by show (zK A j).1 = 4; rw [g2], g4⟩, hK⟩
      · rw [zty_d g1, g2] at hty
        have hty : zkY kd = 7 := hty
        unfold zkY at hty
        split at hty
        · cases hty
        · split at hty <;> cases hty
    · intro As ws sh rv ws' sh' hx ht A Us K hA hv hP
      obtain ⟨j, hU, hP⟩ := hP
      have hty := zdsp_t hA hv hU ht
      refine (za_X8_told _ _ _ _ _ _ hx).2 A Us K hA hv ?_
      rcases hP with ⟨e, s, ⟨g1, g2, g3, g4⟩, hK⟩ | ⟨kd, r, th, un, ⟨g1, g2, g3, g4, g5⟩, hK⟩
      · rw [zty_d g1, g2] at hty
        cases hty
      · rw [zty_d g1, g2] at hty
        have h0 := zkY_8 hty
        rw [zkC_0 h0] at g2 g3 g4 g5
        refine ⟨(j, 8, th), hU, ⟨g1, by show (zK A j).1 = 8; rw [g2], g4⟩, ?_⟩
        have e1 : ztdV kd th un = th := if_pos h0
        have e2 : ztdU A kd = zmk A (Int32.ofInt 2) := if_pos h0
        rw [e1, e2] at hK
        exact hK
    · intro As ws sh rv ws' sh' hx ht A Us K hA hv hP
      obtain ⟨j, hU, hP⟩ := hP
      have hty := zdsp_t hA hv hU ht
      refine (za_X0_told _ _ _ _ _ _ hx).2 A Us K hA hv ?_
      rcases hP with ⟨e, s, ⟨g1, g2, g3, g4⟩, hK⟩ | ⟨kd, r, th, un, ⟨g1, g2, g3, g4, g5⟩, hK⟩
      · rw [zty_d g1, g2] at hty
        cases hty
      · rw [zty_d g1, g2] at hty
        obtain ⟨h0, h1⟩ := zkY_9 hty
        rw [zkC_1 h0 h1] at g2 g3 g4 g5
        refine ⟨(j, th, un), hU, ⟨g1, by show (zK A j).1 = 0; rw [g2], g4, g5⟩, ?_⟩
        have e1 : ztdV kd th un = th + un := by
          unfold ztdV
          rw [if_neg h0, if_pos h1]
        have e2 : ztdU A kd = zmk (zmk A (Int32.ofInt 3)) (Int32.ofInt 2) := by
          unfold ztdU
          rw [if_neg h0, if_pos h1]
        rw [e1, e2] at hK
        exact hK
    · intro As ws sh rv ws' sh' hx ht A Us K hA hv hP
      obtain ⟨j, hU, hP⟩ := hP
      have hty := zdsp_t hA hv hU ht
      refine (za_X5_told _ _ _ _ _ _ hx).2 A Us K hA hv ?_
      rcases hP with ⟨e, s, ⟨g1, g2, g3, g4⟩, hK⟩ | ⟨kd, r, th, un, ⟨g1, g2, g3, g4, g5⟩, hK⟩
      · rw [zty_d g1, g2] at hty
        cases hty
      · rw [zty_d g1, g2] at hty
        obtain ⟨h0, h1⟩ := zkY_10 hty
        rw [zkC_2 h0 h1] at g2 g3 g4 g5
        refine ⟨(j, th), hU, ⟨g1, by show (zK A j).1 = 5; rw [g2], g4⟩, ?_⟩
        have e1 : ztdV kd th un = -th - Int32.ofInt 1 := by
          unfold ztdV
          rw [if_neg h0, if_neg h1]
        have e2 : ztdU A kd = zmk (zmk A (Int32.ofInt 4)) (Int32.ofInt 2) := by
          unfold ztdU
          rw [if_neg h0, if_neg h1]
        rw [e1, e2] at hK
        exact hK
set_option maxRecDepth 20000 in
theorem za_shown : zdo (fdsp [(8, r_X8_shown), (9, r_X0_shown), (10, r_X5_shown)]) zq_shown := by
  have k30 : ∀ {ci : Nat}, zkS ci → kfd fl_X8 30 ci = kpd pI_X10 7 ci := fun hc => by
    rcases hc with rfl | rfl | rfl <;> decide
  refine zdo_dsp ?_ ?_
  · refine List.forall_mem_cons.mpr ⟨fun _ _ _ _ _ _ h => (za_X8_shown _ _ _ _ _ _ h).1, List.forall_mem_cons.mpr ⟨fun _ _ _ _ _ _ h => (za_X0_shown _ _ _ _ _ _ h).1, List.forall_mem_cons.mpr ⟨fun _ _ _ _ _ _ h => (za_X5_shown _ _ _ _ _ _ h).1, fun _ h => absurd h List.not_mem_nil⟩⟩⟩
  · refine List.forall_mem_cons.mpr ⟨?_, List.forall_mem_cons.mpr ⟨?_, List.forall_mem_cons.mpr ⟨?_, fun _ h => absurd h List.not_mem_nil⟩⟩⟩
    · intro As ws sh rv ws' sh' hx ht A Us K hA hv hP
      obtain ⟨j, hU, kd, r, th, un, ⟨g1, g2, g3, -⟩, hK⟩ := hP
      have hty := zdsp_t hA hv hU ht
      refine (za_X8_shown _ _ _ _ _ _ hx).2 A Us K hA hv ?_
      rw [zty_d g1, g2] at hty
      have h0 := zkY_8 hty
      rw [zkC_0 h0] at g2 g3
      refine ⟨(j, 8, r), hU, ⟨g1, by show (zK A j).1 = 8; rw [g2], by show zF A j (kfd fl_X8 30 8) = _; rw [k30 (Or.inl rfl)]; exact g3⟩, ?_⟩
      have e1 : zshV kd r = r := if_pos h0
      have e2 : zshU A kd = zmk A (Int32.ofInt 5) := if_pos h0
      rw [e1, e2] at hK
      exact hK
    · intro As ws sh rv ws' sh' hx ht A Us K hA hv hP
      obtain ⟨j, hU, kd, r, th, un, ⟨g1, g2, g3, -⟩, hK⟩ := hP
      have hty := zdsp_t hA hv hU ht
      refine (za_X0_shown _ _ _ _ _ _ hx).2 A Us K hA hv ?_
      rw [zty_d g1, g2] at hty
      obtain ⟨h0, h1⟩ := zkY_9 hty
      rw [zkC_1 h0 h1] at g2 g3
      refine ⟨(j, 0, r), hU, ⟨g1, by show (zK A j).1 = 0; rw [g2], by show zF A j (kfd fl_X8 30 0) = _; rw [k30 (Or.inr (Or.inl rfl))]; exact g3⟩, ?_⟩
      have e1 : zshV kd r = Int32.ofInt 100 + r := by
        unfold zshV
        rw [if_neg h0, if_pos h1]
      have e2 : zshU A kd = zmk (zmk A (Int32.ofInt 6)) (Int32.ofInt 5) := by
        unfold zshU
        rw [if_neg h0, if_pos h1]
      rw [e1, e2] at hK
      exact hK
    · intro As ws sh rv ws' sh' hx ht A Us K hA hv hP
      obtain ⟨j, hU, kd, r, th, un, ⟨g1, g2, g3, -⟩, hK⟩ := hP
      have hty := zdsp_t hA hv hU ht
      refine (za_X5_shown _ _ _ _ _ _ hx).2 A Us K hA hv ?_
      rw [zty_d g1, g2] at hty
      obtain ⟨h0, h1⟩ := zkY_10 hty
      rw [zkC_2 h0 h1] at g2 g3
      refine ⟨(j, 5, r), hU, ⟨g1, by show (zK A j).1 = 5; rw [g2], by show zF A j (kfd fl_X8 30 5) = _; rw [k30 (Or.inr (Or.inr rfl))]; exact g3⟩, ?_⟩
      have e1 : zshV kd r = Int32.ofInt 1000 + (Int32.ofInt 100 + r) := by
        unfold zshV
        rw [if_neg h0, if_neg h1]
      have e2 : zshU A kd = zmk (zmk (zmk A (Int32.ofInt 7)) (Int32.ofInt 6)) (Int32.ofInt 5) := by
        unfold zshU
        rw [if_neg h0, if_neg h1]
      rw [e1, e2] at hK
      exact hK
