/-! what comes to a row of sets by an element: over addresses (the constants lie outside of the world) -/
abbrev rsB : Type := Nat × List Value × Nat × ClassId × (Nat → Int64)
def rs_at (a : rsB) (h : fH) : Prop := h a.1 = some (.inr (1, a.2.1)) ∧ a.2.1.getD 0 .null = .ref a.2.2.1 ∧ h a.2.2.1 = some (.inl (a.2.2.2.1, 64, .inr (.inl a.2.2.2.2)))
theorem n64_t : ∀ n, n < 64 → (Int32.ofNat n).toInt = (n : Int) := by decide +kernel
theorem rs_b0 : ∀ j, j < 6 → ∀ r, r < 64 → ((Int32.ofNat r >>> ((Int32.ofNat (6 + j) - Int32.ofInt 6) &&& 31)) &&& Int32.ofInt 1).toInt = (if r.testBit j = true then 1 else 0) := by decide +kernel
theorem rs_i0 : ∀ j, j < 6 → ∀ r, r < 64 → (Int32.ofNat r - (Int32.ofInt 1 <<< ((Int32.ofNat (6 + j) - Int32.ofInt 6) &&& 31))).toInt = (r : Int) - ((2 ^ j : Nat) : Int) := by decide +kernel
theorem rs_b (k : Nat) (h6 : 6 ≤ k) (hk : k < 12) (r : Nat) (hr : r < 64) : ((Int32.ofNat r >>> ((Int32.ofNat k - Int32.ofInt 6) &&& 31)) &&& Int32.ofInt 1).toInt = (if r.testBit (k - 6) = true then 1 else 0) := by
  have h := rs_b0 (k - 6) (by omega) r hr
  rw [show 6 + (k - 6) = k by omega] at h
  exact h
theorem rs_i (k : Nat) (h6 : 6 ≤ k) (hk : k < 12) (r : Nat) (hr : r < 64) : (Int32.ofNat r - (Int32.ofInt 1 <<< ((Int32.ofNat k - Int32.ofInt 6) &&& 31))).toInt = (r : Int) - ((2 ^ (k - 6) : Nat) : Int) := by
  have h := rs_i0 (k - 6) (by omega) r hr
  rw [show 6 + (k - 6) = k by omega] at h
  exact h
abbrev rsA : Type := rsB × Nat × Nat
set_option maxHeartbeats 4000000 in
theorem s_X1_raised : f_do r_X1_raised (fun As h rv h' => ∀ a : rsA, As = [.ref a.1.1, .int (Int32.ofNat a.2.1), .int (Int32.ofNat a.2.2)] → (rs_at a.1 h ∧ a.2.1 < 12 ∧ a.2.2 < 64) → rv = some (.long (rz a.1.2.2.2.2 a.2.1 a.2.2)) ∧ h' = h) := by
  refine do_ofP (fun a : rsA => [.ref a.1.1, .int (Int32.ofNat a.2.1), .int (Int32.ofNat a.2.2)]) (fun a h => rs_at a.1 h ∧ a.2.1 < 12 ∧ a.2.2 < 64) (fun a h rv h' => rv = some (.long (rz a.1.2.2.2.2 a.2.1 a.2.2)) ∧ h' = h) [] (fun _ _ => []) 60 fo_X1 no_sp k_X1_raised (fun _ _ _ => no_hd) (fun a h0 hp => ?_)
  obtain ⟨⟨p, fs, a, cA, f⟩, k, r⟩ := a
  obtain ⟨⟨hp, h0a, ha⟩, hk, hr⟩ := hp
  have hp : h0 p = some (.inr (1, fs)) := hp
  have h0a : fs.getD 0 .null = .ref a := h0a
  have ha : h0 a = some (.inl (cA, 64, .inr (.inl f))) := ha
  have hk : k < 12 := hk
  have hr : r < 64 := hr
  have tk := n64_t k (by omega)
  have tr := n64_t r hr
  have g1 : eG fl_X1 13 (h0 p) = .ref a := by
    rw [hp, ← h0a]
    rfl
  have ej : ∀ x, eJ (h0 (rv_ (eG fl_X1 13 (h0 p)))) x = f x := fun x => by
    rw [g1]
    show eJ (h0 a) x = f x
    rw [ha]
    rfl
  have e1 : (Int32.ofInt 1).toInt = 1 := by decide
  refine ⟨fun h1 => ?_, fun h1 => ?_⟩
  · have h1 : (Int32.ofNat k).toInt < 0 := h1
    omega
  intro q hq
  have hq : h0 q = none := hq
  refine ⟨fun h6 => ?_, fun h6 => ?_⟩
  · have h6 : (Int32.ofNat (eL (h0 q))).toInt ≤ (Int32.ofNat k).toInt := h6
    rw [hq] at h6
    have h6 : (Int32.ofNat 6).toInt ≤ (Int32.ofNat k).toInt := h6
    rw [n64_t 6 (by decide)] at h6
    have hb0 := rs_b k (by omega) hk r hr
    have hi0 := rs_i k (by omega) hk r hr
    refine ⟨fun hb => ?_, fun hb => ⟨fun hi => ?_, fun hi => ?_⟩⟩
    · have hb : ¬ ((Int32.ofNat r >>> ((Int32.ofNat k - Int32.ofInt 6) &&& 31)) &&& Int32.ofInt 1).toInt = (Int32.ofInt 1).toInt := hb
      rw [hb0, e1] at hb
      have hz : ¬ r.testBit (k - 6) = true := fun z => hb (if_pos z)
      refine ⟨?_, rfl⟩
      show some (Value.long 0) = some (.long (rz f k r))
      unfold rz
      rw [if_neg (by omega), if_neg hz]
    · have hb : ¬ ¬ ((Int32.ofNat r >>> ((Int32.ofNat k - Int32.ofInt 6) &&& 31)) &&& Int32.ofInt 1).toInt = (Int32.ofInt 1).toInt := hb
      rw [hb0, e1] at hb
      have hi : (Int32.ofNat r - (Int32.ofInt 1 <<< ((Int32.ofNat k - Int32.ofInt 6) &&& 31))).toInt < 0 := hi
      rw [hi0] at hi
      by_cases hz : r.testBit (k - 6) = true
      · have := Nat.ge_two_pow_of_testBit hz
        omega
      · rw [if_neg hz] at hb
        exact absurd (by decide) hb
    · have hb : ¬ ¬ ((Int32.ofNat r >>> ((Int32.ofNat k - Int32.ofInt 6) &&& 31)) &&& Int32.ofInt 1).toInt = (Int32.ofInt 1).toInt := hb
      rw [hb0, e1] at hb
      have hz : r.testBit (k - 6) = true := by
        cases z : r.testBit (k - 6) with
        | true => rfl
        | false =>
          rw [z] at hb
          exact absurd (by decide) hb
      refine ⟨?_, rfl⟩
      show some (Value.long (eJ (h0 (rv_ (eG fl_X1 13 (h0 p)))) (Int32.ofNat r - (Int32.ofInt 1 <<< ((Int32.ofNat k - Int32.ofInt 6) &&& 31))).toNatClampNeg)) = some (.long (rz f k r))
      rw [ej]
      unfold rz
      rw [if_neg (by omega), if_pos hz]
      show some (Value.long (f (Int32.ofNat r - (Int32.ofInt 1 <<< ((Int32.ofNat k - Int32.ofInt 6) &&& 31))).toInt.toNat)) = _
      rw [hi0]
      have hge := Nat.ge_two_pow_of_testBit hz
      rw [show ((r : Int) - ((2 ^ (k - 6) : Nat) : Int)).toNat = r - 2 ^ (k - 6) by omega]
  · have h6 : ¬ (Int32.ofNat (eL (h0 q))).toInt ≤ (Int32.ofNat k).toInt := h6
    rw [hq] at h6
    have h6 : ¬ (Int32.ofNat 6).toInt ≤ (Int32.ofNat k).toInt := h6
    rw [n64_t 6 (by decide)] at h6
    intro q2 hq2
    have hq2 : h0 q2 = none := hq2
    refine ⟨?_, rfl⟩
    show some (Value.long ((eJ (h0 (rv_ (eG fl_X1 13 (h0 p)))) (Int32.ofNat r).toNatClampNeg &&& (eJ (h0 q2) (Int32.ofNat k).toNatClampNeg ^^^ Int64.ofInt (-1))) <<< ((Int32.ofInt 1 <<< (Int32.ofNat k &&& 31)).toInt64 &&& 63))) = some (.long (rz f k r))
    rw [ej, hq2]
    show some (Value.long ((f (Int32.ofNat r).toInt.toNat &&& (fw_v (Int32.ofNat k).toInt.toNat ^^^ Int64.ofInt (-1))) <<< ((Int32.ofInt 1 <<< (Int32.ofNat k &&& 31)).toInt64 &&& 63))) = some (.long (rz f k r))
    rw [tk, tr]
    unfold rz
    rw [if_pos (by omega)]
    rfl
/-- a call that leaves all as it is -/
theorem fq_same {TT : List ck_D} {SG : List Nat} {rt : Nat} {Wr : List (Nat × Nat)} {T : fT} {cc : ByteArray} {As : List Value} {ws : va_W} {sh : List Nat} {rv : Option Value} {ws' : va_W} {sh' : List Nat} (hx : fq TT SG rt Wr T cc As ws sh rv ws' sh') (h : hof ws' = hof ws) : ws' = ws ∧ sh' = sh := by
  obtain ⟨-, hd, hd', hex, ⟨tys, hw, hw'⟩, -⟩ := hx
  have hlen : ws'.length = ws.length := by
    have hle : ws.length ≤ ws'.length := by
      cases hl : ws.length with
      | zero => exact Nat.zero_le _
      | succ n =>
        have hn : n < ws.length := by omega
        obtain ⟨e', h1, -⟩ := hex.2 n (ws[n]'hn).1 (ws[n]'hn).2 (sh[n]'(by rw [hw.1]; exact hn)) (List.getElem?_eq_getElem hn) (List.getElem?_eq_getElem _)
        have := (List.getElem?_eq_some_iff.mp h1).1
        omega
    refine Nat.le_antisymm (Nat.le_of_not_lt (fun hlt => ?_)) hle
    have h1 : ws'[ws.length]? = some (ws'[ws.length]'hlt) := List.getElem?_eq_getElem hlt
    have h2 := hof_at (q := ws.length) (p := (ws'[ws.length]'hlt).1) (e := (ws'[ws.length]'hlt).2) hd' h1
    rw [h] at h2
    obtain ⟨q, h3⟩ := hof_some h2
    have hq := (List.getElem?_eq_some_iff.mp h3).1
    obtain ⟨e', h4, -⟩ := hex.2 q _ _ (sh[q]'(by rw [hw.1]; exact hq)) h3 (List.getElem?_eq_getElem _)
    have h5 := hd' q ws.length _ _ h4 h1 rfl
    omega
  refine ⟨List.ext_getElem? (fun q => ?_), List.ext_getElem? (fun q => ?_)⟩
  · by_cases hq : q < ws.length
    · have h0 : ws[q]? = some (ws[q]'hq) := List.getElem?_eq_getElem hq
      obtain ⟨e', h1, -⟩ := hex.2 q (ws[q]'hq).1 (ws[q]'hq).2 (sh[q]'(by rw [hw.1]; exact hq)) h0 (List.getElem?_eq_getElem _)
      have h2 := hof_at hd' h1
      have h3 : hof ws (ws[q]'hq).1 = some (ws[q]'hq).2 := hof_at hd h0
      rw [h, h3] at h2
      have h2 := Option.some.inj h2
      rw [h1, h0, ← h2]
    · rw [List.getElem?_eq_none (by omega), List.getElem?_eq_none (by omega)]
  · have e1 := hw.1
    have e2 := hw'.1
    by_cases hq : q < sh.length
    · have h0 : sh[q]? = some (sh[q]'hq) := List.getElem?_eq_getElem hq
      rw [hex.1 q _ h0, h0]
    · rw [List.getElem?_eq_none (by omega), List.getElem?_eq_none (by omega)]
/-- what comes to the family's rows -/
def zq_raised : zQ := zpu (fun a : Nat × Nat => [.ref 199, .int (Int32.ofNat a.1), .int (Int32.ofNat a.2)]) (fun a _ => a.1 < 12 ∧ a.2 < 64) (fun a A => .long (rz (zJ A 200) a.1 a.2))
set_option maxRecDepth 20000 in
theorem za_X1_raised : zdo r_X1_raised zq_raised := by
  intro As ws sh rv ws' sh' hx
  refine ⟨zx_fq hx, fun A Us K hA hv hP => ?_⟩
  obtain ⟨⟨k, r⟩, rfl, ⟨hk, hr⟩, hK⟩ := hP
  have hw0 := hx.2.2.2.2.1
  obtain ⟨tys, hw, -⟩ := hw0
  cases As with
  | nil => exact hv.elim
  | cons a1 As =>
  obtain ⟨h1, hv⟩ := hv
  cases As with
  | nil => exact hv.elim
  | cons a2 As =>
  obtain ⟨h2, hv⟩ := hv
  cases As with
  | nil => exact hv.elim
  | cons a3 As =>
  obtain ⟨h3, hv⟩ := hv
  cases As with
  | cons a4 As => exact hv.elim
  | nil =>
  obtain ⟨p, e, rfl, hp⟩ := h1
  have h2 : a2 = .int (Int32.ofNat k) := h2
  have h3 : a3 = .int (Int32.ofNat r) := h3
  subst h2
  subst h3
  obtain ⟨hs, he⟩ := hA.2.2 199 p e hp
  obtain ⟨td, t1, t2⟩ := hw.2.1 199 p e _ hp hs
  have t1 : cw_TT[5]? = some td := t1
  have e1 : td = (0, 1, 0, [(2, 0, 0, [6])]) := Option.some.inj (t1.symm.trans rfl)
  subst e1
  obtain ⟨fs, rfl, hl, hf⟩ := t2
  obtain ⟨v, v1, v2⟩ := hf 0 (2, 0, 0, [6]) rfl
  have z1 : zvr ws v (.ref 200) := he.2 0 v v1
  obtain ⟨a, ea, rfl, ha⟩ := z1
  obtain ⟨hs2, he2⟩ := hA.2.2 200 a ea ha
  obtain ⟨td2, t3, t4⟩ := hw.2.1 200 a ea _ ha hs2
  have t3 : cw_TT[6]? = some td2 := t3
  have e2 : td2 = (2, 64, 1, []) := Option.some.inj (t3.symm.trans rfl)
  subst e2
  obtain ⟨cA, f, -, rfl⟩ := t4
  have zf : zJ A 200 = f := funext he2.2
  obtain ⟨-, sp⟩ := s_X1_raised _ _ _ _ _ _ hx
  obtain ⟨er, eh⟩ := sp ((p, fs, a, cA, f), k, r) rfl ⟨⟨hof_at hA.1 hp, by rw [List.getD_eq_getElem?_getD, v1]; rfl, hof_at hA.1 ha⟩, hk, hr⟩
  obtain ⟨rfl, rfl⟩ := fq_same hx eh
  have hK : K (some (.long (rz (zJ A 200) k r))) A := hK
  rw [zf] at hK
  exact ⟨A, some (.long (rz f k r)), hA, by rw [er]; exact ⟨rfl, trivial⟩, hK⟩
