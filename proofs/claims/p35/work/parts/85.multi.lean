noncomputable section
/-! rows of rows of ints, made at one stroke -/
def mz_f (h N : Nat) : Nat → Option Nat := fun i => if i < N then some (h + 1 + i) else none
abbrev mz_o (c : ClassId) (N h i : Nat) : Cell := arrV c N (fun j => va_rf (mz_f h i j))
abbrev mz_i (comp : ClassId) (K : Nat) : Cell := arrV comp K (fun _ => .int 0)
def mz_S (t : State) (c comp : ClassId) (N K : Nat) : Nat → State
  | 0 => t.pushCell (mz_o c N t.heap.size 0)
  | i + 1 => ((mz_S t c comp N K i).pushCell (mz_i comp K)).setCell t.heap.size (mz_o c N t.heap.size (i + 1))
theorem mz_step (c : ClassId) (N h i : Nat) : (mz_o c N h i).setSlot i (.ref (h + 1 + i)) = mz_o c N h (i + 1) := by
  rw [arrV_store]
  refine congrArg (arrV c N) ?_
  funext j
  unfold updV mz_f
  dsimp only
  by_cases e : j = i
  · subst e
    rw [if_pos rfl, if_pos (Nat.lt_succ_self _)]
    rfl
  · rw [if_neg e]
    by_cases g : j < i
    · rw [if_pos g, if_pos (by omega)]
    · rw [if_neg g, if_neg (by omega)]
theorem mz_facts (t : State) (c comp : ClassId) (N K : Nat) : ∀ i, (mz_S t c comp N K i).heap.size = t.heap.size + 1 + i ∧ (mz_S t c comp N K i).heap[t.heap.size]? = some (mz_o c N t.heap.size i) ∧ (mz_S t c comp N K i).vm = t.vm ∧ (mz_S t c comp N K i).slotsUsed = t.slotsUsed + N + i * K
  | 0 => ⟨by simp [mz_S], by simp [mz_S], rfl, by simp [mz_S, arrV_size]⟩
  | i + 1 => by
    obtain ⟨a, b, d, u⟩ := mz_facts t c comp N K i
    have hlt : t.heap.size < (mz_S t c comp N K i).heap.size := by omega
    have hb' : ((mz_S t c comp N K i).pushCell (mz_i comp K)).heap[t.heap.size]? = some (mz_o c N t.heap.size i) := by rw [State.heap_pushCell_of_lt (h := hlt)]; exact b
    refine ⟨?_, State.heap_setCell_self hb', by simp [mz_S, d], ?_⟩
    · simp [mz_S, State.setCell, a]; omega
    · simp [mz_S, u, arrV_size, Nat.succ_mul]; omega
theorem mz_top (t : State) (f : JFrame) (c comp : ClassId) (N K : Nat) : ∀ i, mz_S (t.setTop f) c comp N K i = (mz_S t c comp N K i).setTop f
  | 0 => rfl
  | i + 1 => by simp only [mz_S, mz_top t f c comp N K i, State.heap_setTop, State.pushCell_setTop, State.setCell_setTop]
theorem mz_old (t : State) (c comp : ClassId) (N K : Nat) {a : Addr} (ha : a < t.heap.size) : ∀ i, (mz_S t c comp N K i).heap[a]? = t.heap[a]?
  | 0 => State.heap_pushCell_of_lt _ _ ha
  | i + 1 => by
    have f1 := (mz_facts t c comp N K i).1
    have hlt : a < (mz_S t c comp N K i).heap.size := Nat.lt_of_lt_of_le ha (by rw [f1]; omega)
    show (((mz_S t c comp N K i).pushCell (mz_i comp K)).setCell t.heap.size _).heap[a]? = _
    rw [State.heap_setCell_other (Nat.ne_of_gt ha), State.heap_pushCell_of_lt (h := hlt)]
    exact mz_old t c comp N K ha i
theorem mz_inner (t : State) (c comp : ClassId) (N K : Nat) : ∀ i j, j < i → (mz_S t c comp N K i).heap[t.heap.size + 1 + j]? = some (mz_i comp K)
  | 0, _, h => absurd h (Nat.not_lt_zero _)
  | i + 1, j, h => by
    have f1 := (mz_facts t c comp N K i).1
    show (((mz_S t c comp N K i).pushCell (mz_i comp K)).setCell t.heap.size _).heap[t.heap.size + 1 + j]? = _
    rw [State.heap_setCell_other (show t.heap.size ≠ t.heap.size + 1 + j by omega)]
    rcases Nat.lt_or_ge j i with hj | hj
    · have hlt : t.heap.size + 1 + j < (mz_S t c comp N K i).heap.size := by rw [f1]; omega
      rw [State.heap_pushCell_of_lt (h := hlt)]
      exact mz_inner t c comp N K i j hj
    · have ej : j = i := by omega
      subst ej
      rw [← f1]
      exact State.heap_pushCell_size _ _
section
variable {E : CtlPost} {e : Env} {d : Bool} {acts : List Action} {t : State}
theorem mz_wp1 {c comp : ClassId} {k : Class} {ty : FieldType} {len : Nat} {v : Value} (hk : t.vm.classes[c]? = some k) (hkind : k.kind = .array comp ty) (hlimit : ¬ len > e.platform.arrayLengthLimit) (hheap : ¬ len * componentBytes ty > e.platform.maxHeapBytes) (hfit : fits ty v = true) (hdef : v.isDefault = true) {Q : Addr → Pre}
    (h1 : t.heap.size < e.platform.maxCells) (h2 : t.slotsUsed + len ≤ e.platform.maxSlots) (hq : Q t.heap.size d acts (t.pushCell (arrV c len (fun _ => v)))) : wp (Jvm.newArray c len v) Q E e d acts t := by
  rw [← arrV_new] at hq
  have hfits : ∀ i w, (Array.replicate len v)[i]? = some w → t.fitsSlot c .none i w = true := by
    intro i w hw
    simp only [Array.getElem?_replicate] at hw
    split at hw
    · cases hw; simp [State.fitsSlot, State.slotType?, hk, hkind, hfit]
    · cases hw
  have hda : allocActs (Array.replicate len v) t.heap.size acts = acts := by
    have hall : ((Array.replicate len v).all (·.isDefault)) = true := by
      rw [Array.all_replicate]; split <;> simp [hdef]
    unfold allocActs; rw [if_pos hall]
  simp only [Jvm.newArray, Jvm.arrayFits, wp_bind', Jvm.W.ask, Jvm.W.ite, hlimit, if_false, wp_pure', Jvm.W.theClass, hk, hkind, hheap, Jvm.W.alloc, Jvm.W.stop, Option.some.injEq, exists_eq_left', Array.size_replicate, hda]
  rw [if_neg (by omega)]
  exact ⟨h1, h2, hfits, hq⟩
theorem mz_wp2 {c comp cc : ClassId} {k kc : Class} {n m : Int32} (hk : t.vm.classes[c]? = some k) (hkind : k.kind = .array comp (.array .int)) (hkc : t.vm.classes[comp]? = some kc) (hkindc : kc.kind = .array cc .int) (hn : ¬ n < 0) (hm : ¬ m < 0)
    (hl1 : ¬ n.toNatClampNeg > e.platform.arrayLengthLimit) (hh1 : ¬ n.toNatClampNeg * 4 > e.platform.maxHeapBytes) (hl2 : ¬ m.toNatClampNeg > e.platform.arrayLengthLimit) (hh2 : ¬ m.toNatClampNeg * 4 > e.platform.maxHeapBytes)
    (hc : t.heap.size + 1 + n.toNatClampNeg ≤ e.platform.maxCells) (hs : t.slotsUsed + n.toNatClampNeg + n.toNatClampNeg * m.toNatClampNeg ≤ e.platform.maxSlots)
    {Q : Addr → Pre} (hq : ∀ d' acts', Q t.heap.size d' acts' (mz_S t c comp n.toNatClampNeg m.toNatClampNeg n.toNatClampNeg)) : wp (multianewarray.make c [n, m]) Q E e d acts t := by
  have hfind : ([m].find? (· < 0)) = none := by simp [hm]
  rw [multianewarray.make]
  simp only [wp_bind', Jvm.W.ite, hn, if_false, wp_pure', Jvm.W.theClass, hk, hkind, Option.some.injEq, exists_eq_left']
  refine mz_wp1 hk hkind hl1 hh1 rfl rfl (by omega) (by have := Nat.zero_le (n.toNatClampNeg * m.toNatClampNeg); omega) ?_
  simp only [hfind]
  rw [ite_self, wp_bind', Std.Legacy.Range.forIn_eq_forIn_range']
  have hsz : ([:n.toNatClampNeg] : Std.Legacy.Range).size = n.toNatClampNeg := by simp [Std.Legacy.Range.size]
  rw [hsz]
  show wp (forIn (List.range' 0 n.toNatClampNeg 1) PUnit.unit _) _ E e d acts _
  refine wp_forIn_inv (fun rest t' => ∃ i, i ≤ n.toNatClampNeg ∧ rest = List.range' i (n.toNatClampNeg - i) ∧ t' = mz_S t c comp n.toNatClampNeg m.toNatClampNeg i) _ _ ⟨0, Nat.zero_le _, rfl, ?_⟩ ?_ ?_
  · rfl
  · rintro x rest t' d' acts' Q' ⟨i, hi, hl, rfl⟩ hnext
    have hlt : i < n.toNatClampNeg := by
      rcases Nat.lt_or_ge i n.toNatClampNeg with h | h
      · exact h
      · rw [show n.toNatClampNeg - i = 0 from by omega] at hl; simp at hl
    obtain ⟨rfl, hrest⟩ : x = i ∧ rest = List.range' (i + 1) (n.toNatClampNeg - (i + 1)) := by
      rw [show n.toNatClampNeg - i = (n.toNatClampNeg - (i + 1)) + 1 from by omega, List.range'_succ] at hl
      exact ⟨(List.cons.inj hl).1, (List.cons.inj hl).2⟩
    obtain ⟨f1, f2, f3, f4⟩ := mz_facts t c comp n.toNatClampNeg m.toNatClampNeg x
    have hmul : x * m.toNatClampNeg + m.toNatClampNeg ≤ n.toNatClampNeg * m.toNatClampNeg := by
      have := Nat.mul_le_mul_right m.toNatClampNeg (show x + 1 ≤ n.toNatClampNeg from hlt)
      rw [Nat.succ_mul] at this; exact this
    have hlt0 : t.heap.size < (mz_S t c comp n.toNatClampNeg m.toNatClampNeg x).heap.size := by rw [f1]; omega
    simp only [wp_bind']
    rw [multianewarray.make]
    simp only [wp_bind', Jvm.W.ite, hm, if_false, wp_pure', Jvm.W.theClass, f3, hkc, hkindc, Option.some.injEq, exists_eq_left']
    refine mz_wp1 (by rw [f3]; exact hkc) hkindc hl2 hh2 rfl rfl (by rw [f1]; omega) (by rw [f4]; omega) ?_
    simp only [wp_bind', Jvm.W.writeLoc, wp_pure']
    refine ⟨mz_o c n.toNatClampNeg t.heap.size x, by rw [State.heap_pushCell_of_lt (h := hlt0)]; exact f2, by simp [arrV], by rw [arrV_size]; exact hlt, ?_, hnext _ _ _ ⟨x + 1, hlt, hrest, ?_⟩⟩
    · simp [arrV, State.fitsSlot, State.slotType?, f3, hk, hkind]
      rfl
    · rw [f1, mz_step]
      rfl
  · rintro t' d' acts' ⟨i, hi, hl, rfl⟩
    have hiN : i = n.toNatClampNeg := by
      rcases Nat.lt_or_ge i n.toNatClampNeg with h | h
      · rw [show n.toNatClampNeg - i = (n.toNatClampNeg - (i + 1)) + 1 from by omega, List.range'_succ] at hl; cases hl
      · omega
    subst hiN
    simp only [wp_pure']
    exact hq _ _
end
section
variable {p : Program} {l : Launch} {e : Env} {R : Room} {s : State} {m : MethodId} {args : Array Value} {below : List Frame} {meth : Method} {c : Code} {H0 H : Heap} {locs : List Loc} {cells slots : Nat} {Q : State → Prop} {cc : ByteArray} {pc : Nat} {ls : Array Slot} {rest : List Value} {D : va_G} {cl : List vw_C} {tys : List (ClassId × FieldType)} {ws : va_W} {A : Nat → Prop} {T : State}
theorem mz_stand (X : Stand p l e R s m args below meth c T locs cells slots) (cA comp : ClassId) (N K : Nat) : ∀ i, Stand p l e R s m args below meth c (mz_S T cA comp N K i) (locs ++ (List.range i).map fun j => ⟨T.heap.size, j⟩) (cells + 1 + i) (slots + N + i * K)
  | 0 => by
    have h := X.pushed (mz_o cA N T.heap.size 0)
    rw [arrV_size] at h
    simpa [mz_S] using h
  | i + 1 => by
    have Xi := mz_stand X cA comp N K i
    obtain ⟨f1, f2, f3, f4⟩ := mz_facts T cA comp N K i
    have hlt0 : T.heap.size < (mz_S T cA comp N K i).heap.size := by rw [f1]; omega
    have hcell : ((mz_S T cA comp N K i).pushCell (mz_i comp K)).heap[T.heap.size]? = some (mz_o cA N T.heap.size i) := by rw [State.heap_pushCell_of_lt (h := hlt0)]; exact f2
    have h := (Xi.pushed (mz_i comp K)).stored hcell i (.ref (T.heap.size + 1 + i))
    rw [mz_step, arrV_size] at h
    have e2 : (locs ++ (List.range (i + 1)).map fun j => (⟨T.heap.size, j⟩ : Loc)) = (locs ++ (List.range i).map fun j => (⟨T.heap.size, j⟩ : Loc)) ++ [⟨T.heap.size, i⟩] := by simp [List.range_succ, List.append_assoc]
    have e3 : slots + N + (i + 1) * K = slots + N + i * K + K := by rw [Nat.succ_mul]; omega
    rw [e2, e3]
    exact h
end
def mk_AI (U : State) : Prop := ∃ (comp cA : ClassId) (kA : Class), U.vm.findClass "[I" = some comp ∧ U.vm.classes[cA]? = some kA ∧ kA.kind = .array comp (.array .int) ∧ U.vm.findClass "[[I" = some cA
theorem mz_D {A : Nat → Prop} {ws l : va_W} {H : Heap} {D : va_G} {cl : List vw_C} (hD : va_D A ws) (hP : va_P D cl ws H) (hl : ∀ (j : Nat) (x : Nat × va_E), l[j]? = some x → x.1 = H.size + j) (hA : ∀ q, H.size ≤ q → A q) : va_D A (ws ++ l) := by
  have key : ∀ (i : Nat) (x : Nat × va_E), (ws ++ l)[i]? = some x → (ws[i]? = some x ∧ x.1 < H.size) ∨ (ws.length ≤ i ∧ x.1 = H.size + (i - ws.length)) := by
    intro i x hx
    by_cases hi : i < ws.length
    · rw [List.getElem?_append_left hi] at hx
      exact Or.inl ⟨hx, (hP i x hx).lt⟩
    · rw [List.getElem?_append_right (by omega)] at hx
      exact Or.inr ⟨by omega, hl _ x hx⟩
  refine ⟨fun i j x y hx hy hxy => ?_, fun i x hx => ?_⟩
  · rcases key i x hx with ⟨a1, a2⟩ | ⟨a1, a2⟩ <;> rcases key j y hy with ⟨b1, b2⟩ | ⟨b1, b2⟩
    · exact hD.1 i j x y a1 b1 hxy
    · omega
    · omega
    · omega
  · rcases key i x hx with ⟨a1, a2⟩ | ⟨a1, a2⟩
    · exact hD.2 i x a1
    · exact hA _ (by omega)
section
variable {p : Program} {l : Launch} {e : Env} {R : Room} {s : State} {m : MethodId} {args : Array Value} {below : List Frame} {meth : Method} {c : Code} {H0 H : Heap} {locs : List Loc} {cells slots : Nat} {Q : State → Prop} {cc : ByteArray} {pc : Nat} {ls : Array Slot} {rest : List Value} {D : va_G} {cl : List vw_C} {tys : List (ClassId × FieldType)} {ws : va_W} {A : Nat → Prop} {T : State}
theorem mz_go (X : Stand p l e R s m args below meth c T locs cells slots) (hexec : p.tables.exec = Jvm.exec) {own : String} {index : Nat} (hown : s.vm.findClass own = some m.cls) (hclink : (Cond.classLink own index "[[I").before args s = true) (hai : mk_AI s) (harr : (Cond.arrayClass .int).before args s = true)
    {g : JFrame} (hg : g.method = m) (hdg : decode c.code g.pc = .ok (.multianewarray index 2, 4)) {n k : Int32} {rest : List Value} (hstack : g.stack = .int k :: .int n :: rest) (hn : ¬ n < 0) (hk : ¬ k < 0) (hb1 : n.toNatClampNeg ≤ 60000) (hb2 : k.toNatClampNeg ≤ 60000)
    (hcells : cells + (1 + n.toNatClampNeg) ≤ R.cells) (hslots : slots + (n.toNatClampNeg + n.toNatClampNeg * k.toNatClampNeg) ≤ R.slots) :
    ∃ (vm₁ : Vm) (cA comp : ClassId), s.vm.findClass "[[I" = some cA ∧ s.vm.findClass "[I" = some comp ∧
      Stand p l e R s m args below meth c (mz_S (T.setVm vm₁) cA comp n.toNatClampNeg k.toNatClampNeg n.toNatClampNeg) (locs ++ (List.range n.toNatClampNeg).map fun j => ⟨T.heap.size, j⟩) (cells + 1 + n.toNatClampNeg) (slots + n.toNatClampNeg + n.toNatClampNeg * k.toNatClampNeg) ∧
      ∀ target, Steps p.tables e below ((mz_S (T.setVm vm₁) cA comp n.toNatClampNeg k.toNatClampNeg n.toNatClampNeg).setTop { g with pc := g.pc + 4, stack := .ref T.heap.size :: rest }) target → Steps p.tables e below (T.setTop g) target := by
  subst hg
  have hpl : e.platform.magicAccessors = ({} : Platform).magicAccessors := by rw [X.admits.platform]
  obtain ⟨comp, cA, kA, hcomp, hkA, hkindA, hnameA⟩ := hai
  obtain ⟨comp', kC, cc', hcomp', hkC, hkindC⟩ := Cond.arrayClass_spec harr
  have hcomp' : s.vm.findClass "[I" = some comp' := hcomp'
  have ecomp : comp' = comp := Option.some.inj (hcomp'.symm.trans hcomp)
  subst ecomp
  obtain ⟨c0, hfc0, hcl⟩ := Cond.classLink_spec hown hclink e.platform hpl
  cases hnameA.symm.trans hfc0
  obtain ⟨hg₁, hwarm₁, hready₁⟩ := State.classEntry (e := e) X.warmed hcl
  generalize T.vm.noted g.method.cls index (.cls cA) = vm₁ at hg₁ hwarm₁ hready₁
  have hal : s.vm.Alike vm₁ := hwarm₁.alike
  obtain ⟨kA₁, hkA₁, heA⟩ := hal.2.2 _ _ hkA
  obtain ⟨kC₁, hkC₁, heC⟩ := hal.2.2 _ _ hkC
  have hkindA₁ : kA₁.kind = .array comp' (.array .int) := by rw [heA]; exact hkindA
  have hkindC₁ : kC₁.kind = .array cc' .int := by rw [heC]; exact hkindC
  have X₁ := X.noted hwarm₁
  obtain ⟨hr1, hr2⟩ := X.roomAbove hcells hslots
  refine ⟨vm₁, cA, comp', hnameA, hcomp, mz_stand X₁ cA comp' _ _ _, fun target hrest => ?_⟩
  have hl1 : ¬ n.toNatClampNeg > e.platform.arrayLengthLimit := by rw [Launch.admits_arrayLengthLimit X.admits]; omega
  have hh1 : ¬ n.toNatClampNeg * 4 > e.platform.maxHeapBytes := by rw [Launch.admits_maxHeapBytes X.admits]; omega
  have hl2 : ¬ k.toNatClampNeg > e.platform.arrayLengthLimit := by rw [Launch.admits_arrayLengthLimit X.admits]; omega
  have hh2 : ¬ k.toNatClampNeg * 4 > e.platform.maxHeapBytes := by rw [Launch.admits_maxHeapBytes X.admits]; omega
  jvm_step X.here [hexec, hdg]
  simp only [multianewarray.sem, wp_bind', Jvm.W.resolveClassAt_links (State.method?_setTop g X.here.top) hg₁]
  rw [Jvm.W.popN, if_neg (by decide)]
  refine ⟨g, State.topJava?_setTop' (s := T.setVm vm₁) g X.here.top, [.int n, .int k], rest, rfl, hstack, ?_⟩
  simp only [List.mapM_cons, List.mapM_nil, wp_bind', wp_pure']
  refine mz_wp2 (k := kA₁) (kc := kC₁) (comp := comp') (cc := cc') hkA₁ hkindA₁ hkC₁ hkindC₁ hn hk hl1 hh1 hl2 hh2 (by show T.heap.size + 1 + _ ≤ _; omega) (by show T.slotsUsed + _ + _ ≤ _; omega) (fun d' acts' => ?_)
  have XF := mz_stand X₁ cA comp' n.toNatClampNeg k.toNatClampNeg n.toNatClampNeg
  have eS : ((T.setTop g).setVm vm₁).setTop { g with stack := rest } = (T.setVm vm₁).setTop { g with stack := rest } := by
    show ((T.setVm vm₁).setTop g).setTop _ = _
    rw [State.setTop_setTop]
  rw [eS, mz_top]
  simp only [wp_bind', Jvm.W.mark, Jvm.W.pushRef, State.topJava?_setTop' _ XF.here.top, Option.some.injEq, exists_eq_left', State.setTop_setTop, State.heap_setTop]
  intro acts
  simp [jvm, XF.here.top]
  exact hrest
theorem mz_row (hexec : p.tables.exec = Jvm.exec) (hb : c.code = cc) {own : String} {index : Nat} (hown : s.vm.findClass own = some m.cls) (hclink : (Cond.classLink own index "[[I").before args s = true) (hai : mk_AI s) (harr : (Cond.arrayClass .int).before args s = true) (hK : va_K D cl tys s) (hP : va_P D cl ws H) (hD : va_D A ws) (hS : va_S A H0 H locs) (hA : ∀ q, H0.size ≤ q → A q)
    {t5 t0 : Nat} {c5 c0 : ClassId} (g5 : tys[t5]? = some (c5, .array .int)) (g0 : tys[t0]? = some (c0, .int)) {n k : Int32} {N K : Nat} (hn : ¬ n < 0) (hk : ¬ k < 0) (hN : n.toNatClampNeg = N) (hKK : k.toNatClampNeg = K) (hb1 : N ≤ 60000) (hb2 : K ≤ 60000)
    (hcells : cells + (1 + N) ≤ R.cells) (hslots : slots + (N + N * K) ≤ R.slots) (hdg : decode cc pc = .ok (.multianewarray index 2, 4))
    (kk : ∀ (q : Nat) (H1 : Heap) (locs1 : List Loc), va_P D cl (ws ++ (q, .inl (c5, N, .inr (.inr (.inr (.inr (mz_f q N)))))) :: (List.range N).map (fun i => (q + 1 + i, .inl (c0, K, .inl (fun _ => 0))))) H1 → va_D A (ws ++ (q, .inl (c5, N, .inr (.inr (.inr (.inr (mz_f q N)))))) :: (List.range N).map (fun i => (q + 1 + i, .inl (c0, K, .inl (fun _ => 0))))) → va_S A H0 H1 locs1 →
      W p l e R s m args below meth c H1 locs1 (cells + (1 + N)) (slots + (N + N * K)) Q (F0 m (pc + 4) ls (.ref q :: rest))) : W p l e R s m args below meth c H locs cells slots Q (F0 m pc ls (.int k :: .int n :: rest)) := by
  subst hN
  subst hKK
  intro T hT X
  subst hT
  subst hb
  obtain ⟨vm₁, cA, comp, f1, f2, X1, step⟩ := mz_go X hexec hown hclink hai harr (g := F0 m pc ls (.int k :: .int n :: rest)) rfl hdg rfl hn hk hb1 hb2 hcells hslots
  obtain ⟨z1, z2, z3, z4⟩ := mz_facts (T.setVm vm₁) cA comp n.toNatClampNeg k.toNatClampNeg n.toNatClampNeg
  have e5 : c5 = cA := by
    have h5 : va_RA s c5 (.array .int) := (hK.2 t5 _ g5).2
    have h5 : s.vm.findClass ("[" ++ (FieldType.array .int).toString) = some c5 := h5
    rw [show "[" ++ (FieldType.array .int).toString = "[[I" by decide] at h5
    exact Option.some.inj (h5.symm.trans f1)
  have e0 : c0 = comp := by
    have h0 : va_RA s c0 .int := (hK.2 t0 _ g0).2
    have h0 : s.vm.findClass ("[" ++ FieldType.int.toString) = some c0 := h0
    rw [show "[" ++ FieldType.int.toString = "[I" by decide] at h0
    exact Option.some.inj (h0.symm.trans f2)
  subst e5
  subst e0
  have hsz : (T.setVm vm₁).heap.size = T.heap.size := rfl
  have old : ∀ q : Nat, q < T.heap.size → (mz_S (T.setVm vm₁) c5 c0 n.toNatClampNeg k.toNatClampNeg n.toNatClampNeg).heap[q]? = T.heap[q]? := fun q hq => mz_old (T.setVm vm₁) c5 c0 _ _ hq _
  obtain ⟨t2, a1, b1⟩ := kk T.heap.size (mz_S (T.setVm vm₁) c5 c0 n.toNatClampNeg k.toNatClampNeg n.toNatClampNeg).heap (locs ++ (List.range n.toNatClampNeg).map fun j => ⟨T.heap.size, j⟩)
    ((hP.kept (fun i x hx => old x.1 (hP i x hx).lt)).app (fun i x hx => by
      cases i with
      | zero =>
        rw [List.getElem?_cons_zero] at hx
        cases hx
        exact z2
      | succ i =>
        rw [List.getElem?_cons_succ, List.getElem?_map] at hx
        cases hr : (List.range n.toNatClampNeg)[i]? with
        | none => rw [hr] at hx; cases hx
        | some j =>
          rw [hr] at hx
          cases hx
          obtain ⟨hi, ej⟩ := List.getElem?_eq_some_iff.mp hr
          rw [List.getElem_range] at ej
          subst ej
          rw [List.length_range] at hi
          exact mz_inner (T.setVm vm₁) c5 c0 _ _ _ i hi))
    (mz_D hD hP (fun j x hx => by
      cases j with
      | zero =>
        rw [List.getElem?_cons_zero] at hx
        cases hx
        rfl
      | succ i =>
        rw [List.getElem?_cons_succ, List.getElem?_map] at hx
        cases hr : (List.range n.toNatClampNeg)[i]? with
        | none => rw [hr] at hx; cases hx
        | some j =>
          rw [hr] at hx
          cases hx
          obtain ⟨hi, ej⟩ := List.getElem?_eq_some_iff.mp hr
          rw [List.getElem_range] at ej
          subst ej
          show T.heap.size + 1 + i = T.heap.size + (i + 1)
          omega) (fun q hq => hA q (Nat.le_trans hS.1 hq)))
    ⟨Nat.le_trans hS.1 (by rw [z1, hsz]; omega), fun q h1 h2 => (old q (Nat.lt_of_lt_of_le h1 hS.1)).trans (hS.2.1 q h1 h2), fun x hx => by
      rcases List.mem_append.mp hx with h | h
      · exact hS.2.2 x h
      · obtain ⟨j, -, rfl⟩ := List.mem_map.mp h
        exact hA _ hS.1⟩
    _ rfl (by rw [← Nat.add_assoc, ← Nat.add_assoc]; exact X1)
  exact ⟨t2, step t2 a1, b1⟩
end
end
noncomputable section
/-! the makers: constructors, run on known numbers over a known world -/
abbrev mk_V : Type := Nat × Int × Nat
abbrev mk_C : Type := Nat × Nat × Nat × List mk_V
abbrev mk_W : Type := List mk_C
abbrev mk_S : Type := List (Nat × mk_V) × List mk_V × mk_W × Nat × Nat
abbrev mk_F : Type := mk_W → List mk_V → Option (List mk_V × mk_W)
/-- getfield, putfield, new, anewarray, multianewarray, constants, aastore, calls, locals, room -/
abbrev mk_T : Type := List (Nat × Nat × Nat) × List (Nat × Nat × Nat × Nat) × List (Nat × Nat × Nat × List mk_V) × List (Nat × Nat) × List (Nat × Nat) × List (Nat × Nat × Int) × List (Nat × Nat) × List (Nat × Nat × mk_F × Nat × Nat) × Nat × Nat × Nat
def mfl0 (T : mk_T) := T.1
def mpl0 (T : mk_T) := T.2.1
def mnw0 (T : mk_T) := T.2.2.1
def man0 (T : mk_T) := T.2.2.2.1
def mmn0 (T : mk_T) := T.2.2.2.2.1
def mkl0 (T : mk_T) := T.2.2.2.2.2.1
def mal0 (T : mk_T) := T.2.2.2.2.2.2.1
def mcl0 (T : mk_T) := T.2.2.2.2.2.2.2.1
def mnL0 (T : mk_T) := T.2.2.2.2.2.2.2.2.1
def mRC0 (T : mk_T) := T.2.2.2.2.2.2.2.2.2.1
def mRS0 (T : mk_T) := T.2.2.2.2.2.2.2.2.2.2
/-- values: null; an int; the place of a cell -/
def mk_vo (ws : va_W) (x : mk_V) (v : Value) : Prop := match x.1 with
  | 0 => v = .null
  | 1 => ∃ w : Int32, v = .int w ∧ w.toInt = x.2.1
  | _ => ∃ (a : Nat) (e : va_E), ws[x.2.2]? = some (a, e) ∧ v = .ref a
def mk_df (k : Nat) : mk_V := if k = 1 then (1, 0, 0) else (0, 0, 0)
def mk_at (c : mk_C) (i : Nat) : mk_V := c.2.2.2.getD i (mk_df c.1)
def mk_up (c : mk_C) (i : Nat) (v : mk_V) : mk_C := (c.1, c.2.1, c.2.2.1, (c.2.2.2 ++ List.replicate (i + 1 - c.2.2.2.length) (mk_df c.1)).set i v)
theorem mk_up_at (c : mk_C) (i j : Nat) (v : mk_V) : mk_at (mk_up c i v) j = if j = i then v else mk_at c j := by
  unfold mk_at mk_up
  dsimp only
  rw [List.getD_eq_getElem?_getD, List.getD_eq_getElem?_getD, List.getElem?_set]
  have hl : i < (c.2.2.2 ++ List.replicate (i + 1 - c.2.2.2.length) (mk_df c.1)).length := by simp; omega
  by_cases e : i = j
  · subst e
    rw [if_pos rfl, if_pos hl, if_pos rfl]
    rfl
  · rw [if_neg e, if_neg (fun z => e z.symm), List.getElem?_append]
    split
    · rfl
    · rename_i h
      have h2 : c.2.2.2[j]? = none := List.getElem?_eq_none (Nat.not_lt.mp h)
      rw [h2, List.getElem?_replicate]
      split <;> rfl
def mk_co (tys : List (ClassId × FieldType)) (ws : va_W) (c : mk_C) (e : va_E) : Prop := match c.1 with
  | 0 => ∃ vs : List Value, e = .inr (c.2.1, vs) ∧ vs.length = c.2.2.1 ∧ c.2.2.2.length = c.2.2.1 ∧ ck_two (mk_vo ws) c.2.2.2 vs
  | 1 => ∃ (cA : ClassId) (f : Nat → Int32), tys[c.2.1]? = some (cA, .int) ∧ e = .inl (cA, c.2.2.1, .inl f) ∧ ∀ i, mk_vo ws (mk_at c i) (.int (f i))
  | 2 => ∃ (cA : ClassId) (f : Nat → Int64), tys[c.2.1]? = some (cA, .long) ∧ e = .inl (cA, c.2.2.1, .inr (.inl f))
  | 3 => ∃ (cA : ClassId) (C : String) (f : Nat → Option Nat), tys[c.2.1]? = some (cA, .object C) ∧ e = .inl (cA, c.2.2.1, .inr (.inr (.inr (.inr f)))) ∧ ∀ i, mk_vo ws (mk_at c i) (va_rf (f i))
  | 4 => ∃ (cA : ClassId) (f : Nat → Int32), tys[c.2.1]? = some (cA, .boolean) ∧ e = .inl (cA, c.2.2.1, .inl f) ∧ ∀ i, f i = 0
  | _ => ∃ (cA : ClassId) (f : Nat → Option Nat), tys[c.2.1]? = some (cA, .array .int) ∧ e = .inl (cA, c.2.2.1, .inr (.inr (.inr (.inr f)))) ∧ ∀ i, i < c.2.2.1 → mk_vo ws (mk_at c i) (va_rf (f i))
def mk_le (ws ws' : va_W) : Prop := ∀ (i a : Nat) (e : va_E), ws[i]? = some (a, e) → ∃ e', ws'[i]? = some (a, e')
theorem mk_le.rf {ws : va_W} : mk_le ws ws := fun _ _ e h => ⟨e, h⟩
theorem mk_le.tr {a b c : va_W} (h : mk_le a b) (h2 : mk_le b c) : mk_le a c := fun i x e q => by
  obtain ⟨e1, q1⟩ := h i x e q
  exact h2 i x e1 q1
theorem mk_le.set {ws : va_W} {q a : Nat} {e e' : va_E} (h : ws[q]? = some (a, e)) : mk_le ws (ws.set q (a, e')) := fun i b u hi => by
  by_cases eq : q = i
  · subst eq
    rw [h] at hi
    cases hi
    exact ⟨e', List.getElem?_set_self (List.getElem?_eq_some_iff.mp h).1⟩
  · exact ⟨u, by rw [List.getElem?_set_ne eq]; exact hi⟩
theorem mk_le.app {ws l : va_W} : mk_le ws (ws ++ l) := fun i b u hi => ⟨u, by rw [List.getElem?_append_left (List.getElem?_eq_some_iff.mp hi).1]; exact hi⟩
theorem mk_vo.mv {ws ws' : va_W} (h : mk_le ws ws') {x : mk_V} {v : Value} (hv : mk_vo ws x v) : mk_vo ws' x v := by
  unfold mk_vo at hv ⊢
  split
  · rename_i e
    rw [e] at hv
    exact hv
  · rename_i e
    rw [e] at hv
    exact hv
  · rename_i h0 h1
    split at hv
    · rename_i e; exact absurd e h0
    · rename_i e; exact absurd e h1
    · obtain ⟨a, e, h2, h3⟩ := hv
      obtain ⟨e', h4⟩ := h _ a e h2
      exact ⟨a, e', h4, h3⟩
theorem mk_co.mv {tys : List (ClassId × FieldType)} {ws ws' : va_W} (h : mk_le ws ws') {c : mk_C} {e : va_E} (hc : mk_co tys ws c e) : mk_co tys ws' c e := by
  unfold mk_co at hc ⊢
  split at hc
  · obtain ⟨vs, h1, h2, h3, h4⟩ := hc
    exact ⟨vs, h1, h2, h3, h4.imp fun _ _ z => z.mv h⟩
  · obtain ⟨cA, f, h1, h2, h3⟩ := hc
    exact ⟨cA, f, h1, h2, fun i => (h3 i).mv h⟩
  · exact hc
  · obtain ⟨cA, C, f, h1, h2, h3⟩ := hc
    exact ⟨cA, C, f, h1, h2, fun i => (h3 i).mv h⟩
  · exact hc
  · obtain ⟨cA, f, h1, h2, h3⟩ := hc
    exact ⟨cA, f, h1, h2, fun i hi => (h3 i hi).mv h⟩
def mk_wo (tys : List (ClassId × FieldType)) (ws : va_W) (W : mk_W) : Prop := ws.length = W.length ∧ ∀ (i a : Nat) (e : va_E) (c : mk_C), ws[i]? = some (a, e) → W[i]? = some c → mk_co tys ws c e
theorem mk_wo.get {tys : List (ClassId × FieldType)} {ws : va_W} {W : mk_W} (h : mk_wo tys ws W) {j : Nat} {c : mk_C} (hj : W[j]? = some c) : ∃ (a : Nat) (e : va_E), ws[j]? = some (a, e) ∧ mk_co tys ws c e := by
  have hl : j < ws.length := by rw [h.1]; exact (List.getElem?_eq_some_iff.mp hj).1
  have hw : ws[j]? = some (ws[j].1, ws[j].2) := List.getElem?_eq_getElem hl
  exact ⟨_, _, hw, h.2 j _ _ c hw hj⟩
theorem mk_wo.set {tys : List (ClassId × FieldType)} {ws : va_W} {W : mk_W} (h : mk_wo tys ws W) {j a : Nat} {e e' : va_E} {c : mk_C} (hj : ws[j]? = some (a, e)) (hc : mk_co tys ws c e') : mk_wo tys (ws.set j (a, e')) (W.set j c) := by
  have hle : mk_le ws (ws.set j (a, e')) := mk_le.set hj
  have hlt := (List.getElem?_eq_some_iff.mp hj).1
  refine ⟨by rw [List.length_set, List.length_set]; exact h.1, fun i b u d hi hd => ?_⟩
  by_cases eq : j = i
  · subst eq
    rw [List.getElem?_set_self hlt] at hi
    rw [List.getElem?_set_self (by rw [← h.1]; exact hlt)] at hd
    cases hi
    cases hd
    exact hc.mv hle
  · rw [List.getElem?_set_ne eq] at hi hd
    exact (h.2 i b u d hi hd).mv hle
theorem mk_wo.app {tys : List (ClassId × FieldType)} {ws : va_W} {W : mk_W} (h : mk_wo tys ws W) {a : Nat} {e : va_E} {c : mk_C} (hc : mk_co tys (ws ++ [(a, e)]) c e) : mk_wo tys (ws ++ [(a, e)]) (W ++ [c]) := by
  refine ⟨by simp [h.1], fun i b u d hi hd => ?_⟩
  by_cases hlt : i < ws.length
  · rw [List.getElem?_append_left hlt] at hi
    rw [List.getElem?_append_left (by rw [← h.1]; exact hlt)] at hd
    exact (h.2 i b u d hi hd).mv mk_le.app
  · have ei : i = ws.length := by
      have := (List.getElem?_eq_some_iff.mp hi).1
      simp at this
      omega
    subst ei
    have h1 : (ws ++ [(a, e)])[ws.length]? = some (a, e) := by simp
    have h2 : (W ++ [c])[ws.length]? = some c := by rw [h.1]; simp
    rw [h1] at hi
    rw [h2] at hd
    cases hi
    cases hd
    exact hc
theorem mk_vo.cat {ws : va_W} {x : mk_V} {v : Value} (h : mk_vo ws x v) : v.category = 1 := by
  unfold mk_vo at h
  split at h
  · rw [h]; rfl
  · obtain ⟨w, rfl, -⟩ := h; rfl
  · obtain ⟨a, e, -, rfl⟩ := h; rfl
theorem mk_vo.i {ws : va_W} {x : mk_V} {v : Value} (h : mk_vo ws x v) (e : x.1 = 1) : ∃ w : Int32, v = .int w ∧ w.toInt = x.2.1 := by
  unfold mk_vo at h
  rw [e] at h
  exact h
theorem mk_vo.r {ws : va_W} {x : mk_V} {v : Value} (h : mk_vo ws x v) (e : x.1 = 2) : ∃ (a : Nat) (e : va_E), ws[x.2.2]? = some (a, e) ∧ v = .ref a := by
  unfold mk_vo at h
  rw [e] at h
  exact h
theorem mk_vo.ni {ws : va_W} {x : mk_V} {v : Value} (h : mk_vo ws x v) (e : x.1 ≠ 1) : v = .null ∨ ∃ a : Nat, v = .ref a := by
  unfold mk_vo at h
  split at h
  · exact Or.inl h
  · rename_i q; exact absurd q e
  · obtain ⟨a, _, -, rfl⟩ := h; exact Or.inr ⟨a, rfl⟩
theorem mk_vo.int {ws : va_W} {z : Int} {w : Int32} {j : Nat} (h : w.toInt = z) : mk_vo ws (1, z, j) (.int w) := ⟨w, rfl, h⟩
/-! the step -/
def mk_look (loc : List (Nat × mk_V)) (i : Nat) : Option mk_V := (loc.find? (fun q => q.1 == i)).map Prod.snd
def mk_s1 (loc : List (Nat × mk_V)) (i : Nat) (v : mk_V) : List (Nat × mk_V) := (i, v) :: loc.filter (fun q => !(q.1 == i))
def mk_psh (S : mk_S) (v : mk_V) : mk_S := (S.1, v :: S.2.1, S.2.2)
def mk_cst (S : mk_S) (pc : Nat) (v : Int) (ok : Bool) : Option (mk_S × Nat) := if ok = true then some (mk_psh S (1, v, 0), pc) else none
def mk_ld (S : mk_S) (pc i : Nat) (ok : mk_V → Bool) : Option (mk_S × Nat) := match mk_look S.1 i with
  | some v => if ok v = true then some (mk_psh S v, pc) else none
  | none => none
def mk_sto (nL : Nat) (S : mk_S) (pc i : Nat) (ok : mk_V → Bool) : Option (mk_S × Nat) := match S.2.1 with
  | v :: st => if ok v = true ∧ i < nL then some ((mk_s1 S.1 i v, st, S.2.2), pc) else none
  | [] => none
def mk_isi (v : mk_V) : Bool := v.1 == 1
def mk_isr (v : mk_V) : Bool := !(v.1 == 1)
def mk_in32 (z : Int) : Bool := decide (-2147483648 ≤ z ∧ z ≤ 2147483647)
def mk_inc (nL : Nat) (S : mk_S) (pc i : Nat) (c : Int) : Option (mk_S × Nat) := match mk_look S.1 i with
  | some v => if v.1 = 1 ∧ i < nL ∧ (-32768 ≤ c ∧ c < 32768) ∧ mk_in32 (v.2.1 + c) = true then some ((mk_s1 S.1 i (1, v.2.1 + c, 0), S.2), pc) else none
  | none => none
def mk_goto (S : mk_S) (t : Int) : Option (mk_S × Nat) := if 0 ≤ t then some (S, t.toNat) else none
def mk_cmp (cd : ClassFile.Cond) (x y : Int) : Bool := match cd with
  | .eq => decide (x = y)
  | .ne => !decide (x = y)
  | .lt => decide (x < y)
  | .ge => decide (y ≤ x)
  | .gt => decide (y < x)
  | .le => decide (x ≤ y)
def mk_icmp (S : mk_S) (pc : Nat) (cd : ClassFile.Cond) (off : Int) : Option (mk_S × Nat) := match S.2.1 with
  | y :: x :: st => if x.1 = 1 ∧ y.1 = 1 ∧ 0 ≤ (pc : Int) + off then (if mk_cmp cd x.2.1 y.2.1 = true then some ((S.1, st, S.2.2), ((pc : Int) + off).toNat) else some ((S.1, st, S.2.2), pc + 3)) else none
  | _ => none
def mk_shr (S : mk_S) (pc : Nat) : Option (mk_S × Nat) := match S.2.1 with
  | y :: x :: st => if x.1 = 1 ∧ y.1 = 1 ∧ 0 ≤ y.2.1 ∧ y.2.1 < 32 then some ((S.1, (1, x.2.1 >>> y.2.1.toNat, 0) :: st, S.2.2), pc) else none
  | _ => none
def mk_alen (S : mk_S) (pc : Nat) : Option (mk_S × Nat) := match S.2.1 with
  | r :: st => if r.1 = 2 then (match S.2.2.1[r.2.2]? with
    | some c => if c.1 ≠ 0 ∧ c.2.2.1 < 100000 then some ((S.1, (1, (c.2.2.1 : Int), 0) :: st, S.2.2), pc) else none
    | none => none) else none
  | [] => none
def mk_dup (S : mk_S) (pc : Nat) : Option (mk_S × Nat) := match S.2.1 with
  | v :: st => some ((S.1, v :: v :: st, S.2.2), pc)
  | [] => none
def mk_al (S : mk_S) (st : List mk_V) (cs : List mk_C) (n k RC RS : Nat) (pc : Nat) : Option (mk_S × Nat) :=
  if S.2.2.2.1 + n ≤ RC ∧ S.2.2.2.2 + k ≤ RS then some ((S.1, (2, 0, S.2.2.1.length) :: st, S.2.2.1 ++ cs, S.2.2.2.1 + n, S.2.2.2.2 + k), pc) else none
def mk_at0 (a : ArrayType) : Option (Nat × Nat) := match a with
  | .int => some (1, 0)
  | .long => some (2, 1)
  | .boolean => some (4, 2)
  | _ => none
def mk_nar (T : mk_T) (S : mk_S) (pc : Nat) (a : ArrayType) : Option (mk_S × Nat) := match S.2.1, mk_at0 a with
  | v :: st, some x => if v.1 = 1 ∧ 0 ≤ v.2.1 ∧ v.2.1 ≤ 60000 then mk_al S st [(x.1, x.2, v.2.1.toNat, [])] 1 v.2.1.toNat (mRC0 T) (mRS0 T) pc else none
  | _, _ => none
def mk_anr (T : mk_T) (S : mk_S) (pc idx : Nat) : Option (mk_S × Nat) := match S.2.1, (man0 T).find? (fun x => x.1 == idx) with
  | v :: st, some x => if v.1 = 1 ∧ 0 ≤ v.2.1 ∧ v.2.1 ≤ 60000 then mk_al S st [(3, x.2, v.2.1.toNat, [])] 1 v.2.1.toNat (mRC0 T) (mRS0 T) pc else none
  | _, _ => none
def mk_mnr (T : mk_T) (S : mk_S) (pc idx : Nat) : Option (mk_S × Nat) := match S.2.1, (mmn0 T).find? (fun x => x.1 == idx) with
  | k :: n :: st, some x => if k.1 = 1 ∧ n.1 = 1 ∧ 0 ≤ k.2.1 ∧ 0 ≤ n.2.1 ∧ k.2.1 ≤ 60000 ∧ n.2.1 ≤ 60000 then
      mk_al S st ((5, x.2, n.2.1.toNat, (List.range n.2.1.toNat).map (fun i => (2, 0, S.2.2.1.length + 1 + i))) :: List.replicate n.2.1.toNat (1, 0, k.2.1.toNat, [])) (1 + n.2.1.toNat) (n.2.1.toNat + n.2.1.toNat * k.2.1.toNat) (mRC0 T) (mRS0 T) pc else none
  | _, _ => none
def mk_new (T : mk_T) (S : mk_S) (pc idx : Nat) : Option (mk_S × Nat) := match (mnw0 T).find? (fun x => x.1 == idx) with
  | some x => if x.2.2.2.length = x.2.2.1 then mk_al S S.2.1 [(0, x.2.1, x.2.2.1, x.2.2.2)] 1 x.2.2.1 (mRC0 T) (mRS0 T) pc else none
  | none => none
def mk_get (T : mk_T) (S : mk_S) (pc idx : Nat) : Option (mk_S × Nat) := match S.2.1 with
  | r :: st => if r.1 = 2 then (match S.2.2.1[r.2.2]? with
    | some c => if c.1 = 0 then (match (mfl0 T).find? (fun x => x.1 == idx && x.2.1 == c.2.1) with
      | some x => (match c.2.2.2[x.2.2]? with
        | some v => some ((S.1, v :: st, S.2.2), pc)
        | none => none)
      | none => none) else none
    | none => none) else none
  | [] => none
def mk_pok (b : Nat) (v : mk_V) : Bool := match b with
  | 0 => v.1 == 1
  | 1 => v.1 == 1 && decide (0 ≤ v.2.1 ∧ v.2.1 ≤ 1)
  | _ => !(v.1 == 1)
def mk_put (T : mk_T) (S : mk_S) (pc idx : Nat) : Option (mk_S × Nat) := match S.2.1 with
  | v :: r :: st => if r.1 = 2 then (match S.2.2.1[r.2.2]? with
    | some c => if c.1 = 0 then (match (mpl0 T).find? (fun x => x.1 == idx && x.2.1 == c.2.1) with
      | some x => if mk_pok x.2.2.2 v = true ∧ x.2.2.1 < c.2.2.1 then some ((S.1, st, S.2.2.1.set r.2.2 (0, c.2.1, c.2.2.1, c.2.2.2.set x.2.2.1 v), S.2.2.2), pc) else none
      | none => none) else none
    | none => none) else none
  | _ => none
def mk_iast (S : mk_S) (pc : Nat) : Option (mk_S × Nat) := match S.2.1 with
  | v :: i :: r :: st => if v.1 = 1 ∧ i.1 = 1 ∧ r.1 = 2 ∧ 0 ≤ i.2.1 then (match S.2.2.1[r.2.2]? with
    | some c => if c.1 = 1 ∧ i.2.1.toNat < c.2.2.1 then some ((S.1, st, S.2.2.1.set r.2.2 (mk_up c i.2.1.toNat v), S.2.2.2), pc) else none
    | none => none) else none
  | _ => none
def mk_aast (T : mk_T) (S : mk_S) (pc : Nat) : Option (mk_S × Nat) := match S.2.1 with
  | v :: i :: r :: st => if v.1 = 2 ∧ i.1 = 1 ∧ r.1 = 2 ∧ 0 ≤ i.2.1 then (match S.2.2.1[r.2.2]?, S.2.2.1[v.2.2]? with
    | some c, some o => if c.1 = 3 ∧ o.1 = 0 ∧ i.2.1.toNat < c.2.2.1 ∧ (mal0 T).contains (c.2.1, o.2.1) = true then some ((S.1, st, S.2.2.1.set r.2.2 (mk_up c i.2.1.toNat v), S.2.2.2), pc) else none
    | _, _ => none) else none
  | _ => none
def mk_hd (key : Nat) (xs : List mk_V) : Bool := !(key % 3 == 2) || (match xs with
  | v :: _ => v.1 == 2
  | [] => false)
def mk_call (T : mk_T) (S : mk_S) (pc key : Nat) : Option (mk_S × Nat) := match (mcl0 T).find? (fun x => x.1 == key) with
  | some x => if x.2.1 ≤ S.2.1.length ∧ S.2.1.length ≤ 8 ∧ S.2.2.2.1 + x.2.2.2.1 ≤ mRC0 T ∧ S.2.2.2.2 + x.2.2.2.2 ≤ mRS0 T ∧ mk_hd key (S.2.1.take x.2.1).reverse = true then (match x.2.2.1 S.2.2.1 (S.2.1.take x.2.1).reverse with
    | some r => some ((S.1, r.1 ++ S.2.1.drop x.2.1, r.2, S.2.2.2.1 + x.2.2.2.1, S.2.2.2.2 + x.2.2.2.2), pc)
    | none => none) else none
  | none => none
def mk_st (T : mk_T) (S : mk_S) (pc : Nat) (i : Instr) (l : Nat) : Option (mk_S × Nat) := match i with
  | .iconst v => if l = 1 then mk_cst S (pc + 1) v (mk_in32 v) else none
  | .bipush v => if l = 2 then mk_cst S (pc + 2) v (decide (-128 ≤ v ∧ v ≤ 127)) else none
  | .sipush v => if l = 3 then mk_cst S (pc + 3) v (decide (-32768 ≤ v ∧ v ≤ 32767)) else none
  | .ldc idx => if l = 2 then (match (mkl0 T).find? (fun x => x.1 == idx && x.2.1 == 0) with
    | some x => mk_cst S (pc + 2) x.2.2 true
    | none => none) else none
  | .iload_n k => if l = 1 then mk_ld S (pc + 1) k mk_isi else none
  | .iload k => if l = 2 then mk_ld S (pc + 2) k mk_isi else none
  | .aload_n k => if l = 1 then mk_ld S (pc + 1) k mk_isr else none
  | .istore_n k => if l = 1 then mk_sto (mnL0 T) S (pc + 1) k mk_isi else none
  | .istore k => if l = 2 then mk_sto (mnL0 T) S (pc + 2) k mk_isi else none
  | .astore_n k => if l = 1 then mk_sto (mnL0 T) S (pc + 1) k mk_isr else none
  | .iinc k c => if l = 3 then mk_inc (mnL0 T) S (pc + 3) k c else none
  | .goto off => if l = 3 then mk_goto S ((pc : Int) + off) else none
  | .if_icmp cd off => if l = 3 then mk_icmp S pc cd off else none
  | .ishr => if l = 1 then mk_shr S (pc + 1) else none
  | .arraylength => if l = 1 then mk_alen S (pc + 1) else none
  | .dup => if l = 1 then mk_dup S (pc + 1) else none
  | .newarray a => if l = 2 then mk_nar T S (pc + 2) a else none
  | .anewarray idx => if l = 3 then mk_anr T S (pc + 3) idx else none
  | .multianewarray idx d => if l = 4 ∧ d = 2 then mk_mnr T S (pc + 4) idx else none
  | .new idx => if l = 3 then mk_new T S (pc + 3) idx else none
  | .getfield idx => if l = 3 then mk_get T S (pc + 3) idx else none
  | .putfield idx => if l = 3 then mk_put T S (pc + 3) idx else none
  | .iastore => if l = 1 then mk_iast S (pc + 1) else none
  | .aastore => if l = 1 then mk_aast T S (pc + 1) else none
  | .invokestatic idx => if l = 3 then mk_call T S (pc + 3) (3 * idx + 1) else none
  | .invokespecial idx => if l = 3 then mk_call T S (pc + 3) (3 * idx + 2) else none
  | _ => none
def mk_ret (T : mk_T) (rt : Nat) (i : Instr) (l : Nat) (S : mk_S) : Option (List mk_V × mk_W) := if S.2.2.2.1 ≤ mRC0 T ∧ S.2.2.2.2 ≤ mRS0 T then (match i with
  | .return_ => if rt = 0 ∧ l = 1 ∧ S.2.1 = [] then some ([], S.2.2.1) else none
  | .ireturn => if rt = 1 ∧ l = 1 ∧ S.2.1.length = 1 ∧ S.2.1.all mk_isi = true then some (S.2.1, S.2.2.1) else none
  | .areturn => if rt = 4 ∧ l = 1 ∧ S.2.1.length = 1 ∧ S.2.1.all mk_isr = true then some (S.2.1, S.2.2.1) else none
  | _ => none) else none
def mk_run (T : mk_T) (rt : Nat) (code : ck_cd) : Nat → mk_S → Nat → Option (List mk_V × mk_W)
  | 0, _, _ => none
  | f + 1, S, pc => match code.find? (fun y => y.1 == pc) with
    | none => none
    | some y => match mk_ret T rt y.2.1 y.2.2 S with
      | some r => some r
      | none => match mk_st T S pc y.2.1 y.2.2 with
        | some x => mk_run T rt code f x.1 x.2
        | none => none
def mk_ar : Nat → List mk_V → List (Nat × mk_V)
  | _, [] => []
  | i, v :: l => (i, v) :: mk_ar (i + 1) l
/-- a method as a function -/
def mk_fn (T : mk_T) (rt : Nat) (code : ck_cd) (f : Nat) : mk_F := fun W xs => if xs.length ≤ mnL0 T then mk_run T rt code f (mk_ar 0 xs, [], W, 0, 0) 0 else none
end
noncomputable section
/-! the makers' run, over code as a list of functions, lists by their own recursor -/
noncomputable def ck_lapp {α : Type} (l m : List α) : List α := @List.rec α (fun _ => List α) m (fun x _ ih => x :: ih) l
theorem ck_lapp_eq {α : Type} {m : List α} : ∀ {l : List α}, ck_lapp l m = l ++ m
  | [] => rfl
  | x :: l => congrArg (x :: ·) (ck_lapp_eq (m := m) (l := l))
noncomputable def ck_ln {α : Type} (l : List α) : Nat := @List.rec α (fun _ => Nat) 0 (fun _ _ ih => ih + 1) l
theorem ck_ln_eq {α : Type} : ∀ {l : List α}, ck_ln l = l.length
  | [] => rfl
  | _ :: l => congrArg (· + 1) (ck_ln_eq (l := l))
def mk_upG (c : mk_C) (i : Nat) (v : mk_V) : mk_C := (c.1, c.2.1, c.2.2.1, ck_lset (ck_lapp c.2.2.2 (List.replicate (i + 1 - ck_ln c.2.2.2) (mk_df c.1))) i v)
theorem mk_upG_f : @mk_upG = @mk_up := by
  funext c i v
  unfold mk_upG mk_up
  rw [ck_lset_eq, ck_lapp_eq, ck_ln_eq]
def mk_alG (S : mk_S) (st : List mk_V) (cs : List mk_C) (n k RC RS : Nat) (pc : Nat) : Option (mk_S × Nat) :=
  if S.2.2.2.1 + n ≤ RC ∧ S.2.2.2.2 + k ≤ RS then some ((S.1, (2, 0, ck_ln S.2.2.1) :: st, ck_lapp S.2.2.1 cs, S.2.2.2.1 + n, S.2.2.2.2 + k), pc) else none
theorem mk_alG_f : @mk_alG = @mk_al := by
  funext S st cs n k RC RS pc
  unfold mk_alG mk_al
  (try simp only [ck_nth_eq, ck_lset_eq, ck_lapp_eq, ck_ln_eq, mk_upG_f]) <;> (try rfl)
def mk_alenG (S : mk_S) (pc : Nat) : Option (mk_S × Nat) := match S.2.1 with
  | r :: st => if r.1 = 2 then (match ck_nth S.2.2.1 r.2.2 with
    | some c => if c.1 ≠ 0 ∧ c.2.2.1 < 100000 then some ((S.1, (1, (c.2.2.1 : Int), 0) :: st, S.2.2), pc) else none
    | none => none) else none
  | [] => none
theorem mk_alenG_f : @mk_alenG = @mk_alen := by
  funext S pc
  unfold mk_alenG mk_alen
  (try simp only [ck_nth_eq, ck_lset_eq, ck_lapp_eq, ck_ln_eq, mk_upG_f, mk_alG_f]) <;> (try rfl)
def mk_narG (T : mk_T) (S : mk_S) (pc : Nat) (a : ArrayType) : Option (mk_S × Nat) := match S.2.1, mk_at0 a with
  | v :: st, some x => if v.1 = 1 ∧ 0 ≤ v.2.1 ∧ v.2.1 ≤ 60000 then mk_alG S st [(x.1, x.2, v.2.1.toNat, [])] 1 v.2.1.toNat (mRC0 T) (mRS0 T) pc else none
  | _, _ => none
theorem mk_narG_f : @mk_narG = @mk_nar := by
  funext T S pc a
  unfold mk_narG mk_nar
  (try simp only [ck_nth_eq, ck_lset_eq, ck_lapp_eq, ck_ln_eq, mk_upG_f, mk_alG_f]) <;> (try rfl)
def mk_anrG (T : mk_T) (S : mk_S) (pc idx : Nat) : Option (mk_S × Nat) := match S.2.1, (man0 T).find? (fun x => x.1 == idx) with
  | v :: st, some x => if v.1 = 1 ∧ 0 ≤ v.2.1 ∧ v.2.1 ≤ 60000 then mk_alG S st [(3, x.2, v.2.1.toNat, [])] 1 v.2.1.toNat (mRC0 T) (mRS0 T) pc else none
  | _, _ => none
theorem mk_anrG_f : @mk_anrG = @mk_anr := by
  funext T S pc idx
  unfold mk_anrG mk_anr
  (try simp only [ck_nth_eq, ck_lset_eq, ck_lapp_eq, ck_ln_eq, mk_upG_f, mk_alG_f]) <;> (try rfl)
def mk_mnrG (T : mk_T) (S : mk_S) (pc idx : Nat) : Option (mk_S × Nat) := match S.2.1, (mmn0 T).find? (fun x => x.1 == idx) with
  | k :: n :: st, some x => if k.1 = 1 ∧ n.1 = 1 ∧ 0 ≤ k.2.1 ∧ 0 ≤ n.2.1 ∧ k.2.1 ≤ 60000 ∧ n.2.1 ≤ 60000 then
      mk_alG S st ((5, x.2, n.2.1.toNat, (List.range n.2.1.toNat).map (fun i => (2, 0, ck_ln S.2.2.1 + 1 + i))) :: List.replicate n.2.1.toNat (1, 0, k.2.1.toNat, [])) (1 + n.2.1.toNat) (n.2.1.toNat + n.2.1.toNat * k.2.1.toNat) (mRC0 T) (mRS0 T) pc else none
  | _, _ => none
theorem mk_mnrG_f : @mk_mnrG = @mk_mnr := by
  funext T S pc idx
  unfold mk_mnrG mk_mnr
  (try simp only [ck_nth_eq, ck_lset_eq, ck_lapp_eq, ck_ln_eq, mk_upG_f, mk_alG_f]) <;> (try rfl)
def mk_newG (T : mk_T) (S : mk_S) (pc idx : Nat) : Option (mk_S × Nat) := match (mnw0 T).find? (fun x => x.1 == idx) with
  | some x => if x.2.2.2.length = x.2.2.1 then mk_alG S S.2.1 [(0, x.2.1, x.2.2.1, x.2.2.2)] 1 x.2.2.1 (mRC0 T) (mRS0 T) pc else none
  | none => none
theorem mk_newG_f : @mk_newG = @mk_new := by
  funext T S pc idx
  unfold mk_newG mk_new
  (try simp only [ck_nth_eq, ck_lset_eq, ck_lapp_eq, ck_ln_eq, mk_upG_f, mk_alG_f]) <;> (try rfl)
def mk_getG (T : mk_T) (S : mk_S) (pc idx : Nat) : Option (mk_S × Nat) := match S.2.1 with
  | r :: st => if r.1 = 2 then (match ck_nth S.2.2.1 r.2.2 with
    | some c => if c.1 = 0 then (match (mfl0 T).find? (fun x => x.1 == idx && x.2.1 == c.2.1) with
      | some x => (match ck_nth c.2.2.2 x.2.2 with
        | some v => some ((S.1, v :: st, S.2.2), pc)
        | none => none)
      | none => none) else none
    | none => none) else none
  | [] => none
theorem mk_getG_f : @mk_getG = @mk_get := by
  funext T S pc idx
  unfold mk_getG mk_get
  (try simp only [ck_nth_eq, ck_lset_eq, ck_lapp_eq, ck_ln_eq, mk_upG_f, mk_alG_f]) <;> (try rfl)
def mk_putG (T : mk_T) (S : mk_S) (pc idx : Nat) : Option (mk_S × Nat) := match S.2.1 with
  | v :: r :: st => if r.1 = 2 then (match ck_nth S.2.2.1 r.2.2 with
    | some c => if c.1 = 0 then (match (mpl0 T).find? (fun x => x.1 == idx && x.2.1 == c.2.1) with
      | some x => if mk_pok x.2.2.2 v = true ∧ x.2.2.1 < c.2.2.1 then some ((S.1, st, ck_lset S.2.2.1 r.2.2 (0, c.2.1, c.2.2.1, ck_lset c.2.2.2 x.2.2.1 v), S.2.2.2), pc) else none
      | none => none) else none
    | none => none) else none
  | _ => none
theorem mk_putG_f : @mk_putG = @mk_put := by
  funext T S pc idx
  unfold mk_putG mk_put
  (try simp only [ck_nth_eq, ck_lset_eq, ck_lapp_eq, ck_ln_eq, mk_upG_f, mk_alG_f]) <;> (try rfl)
def mk_iastG (S : mk_S) (pc : Nat) : Option (mk_S × Nat) := match S.2.1 with
  | v :: i :: r :: st => if v.1 = 1 ∧ i.1 = 1 ∧ r.1 = 2 ∧ 0 ≤ i.2.1 then (match ck_nth S.2.2.1 r.2.2 with
    | some c => if c.1 = 1 ∧ i.2.1.toNat < c.2.2.1 then some ((S.1, st, ck_lset S.2.2.1 r.2.2 (mk_upG c i.2.1.toNat v), S.2.2.2), pc) else none
    | none => none) else none
  | _ => none
theorem mk_iastG_f : @mk_iastG = @mk_iast := by
  funext S pc
  unfold mk_iastG mk_iast
  (try simp only [ck_nth_eq, ck_lset_eq, ck_lapp_eq, ck_ln_eq, mk_upG_f, mk_alG_f]) <;> (try rfl)
def mk_aastG (T : mk_T) (S : mk_S) (pc : Nat) : Option (mk_S × Nat) := match S.2.1 with
  | v :: i :: r :: st => if v.1 = 2 ∧ i.1 = 1 ∧ r.1 = 2 ∧ 0 ≤ i.2.1 then (match ck_nth S.2.2.1 r.2.2, ck_nth S.2.2.1 v.2.2 with
    | some c, some o => if c.1 = 3 ∧ o.1 = 0 ∧ i.2.1.toNat < c.2.2.1 ∧ (mal0 T).contains (c.2.1, o.2.1) = true then some ((S.1, st, ck_lset S.2.2.1 r.2.2 (mk_upG c i.2.1.toNat v), S.2.2.2), pc) else none
    | _, _ => none) else none
  | _ => none
theorem mk_aastG_f : @mk_aastG = @mk_aast := by
  funext T S pc
  unfold mk_aastG mk_aast
  (try simp only [ck_nth_eq, ck_lset_eq, ck_lapp_eq, ck_ln_eq, mk_upG_f, mk_alG_f]) <;> (try rfl)
abbrev mg_stp : Type := mk_T → mk_S → Nat → Nat → Option (mk_S × Nat)
def mg_iconst (v : Int) (_ : mk_T) (S : mk_S) (pc : Nat) (l : Nat) : Option (mk_S × Nat) := if l = 1 then mk_cst S (pc + 1) v (mk_in32 v) else none
def mg_bipush (v : Int) (_ : mk_T) (S : mk_S) (pc : Nat) (l : Nat) : Option (mk_S × Nat) := if l = 2 then mk_cst S (pc + 2) v (decide (-128 ≤ v ∧ v ≤ 127)) else none
def mg_sipush (v : Int) (_ : mk_T) (S : mk_S) (pc : Nat) (l : Nat) : Option (mk_S × Nat) := if l = 3 then mk_cst S (pc + 3) v (decide (-32768 ≤ v ∧ v ≤ 32767)) else none
def mg_ldc (idx : Nat) (T : mk_T) (S : mk_S) (pc : Nat) (l : Nat) : Option (mk_S × Nat) := if l = 2 then (match (mkl0 T).find? (fun x => x.1 == idx && x.2.1 == 0) with
  | some x => mk_cst S (pc + 2) x.2.2 true
  | none => none) else none
def mg_iload_n (k : Fin 4) (_ : mk_T) (S : mk_S) (pc : Nat) (l : Nat) : Option (mk_S × Nat) := if l = 1 then mk_ld S (pc + 1) k mk_isi else none
def mg_iload (k : Nat) (_ : mk_T) (S : mk_S) (pc : Nat) (l : Nat) : Option (mk_S × Nat) := if l = 2 then mk_ld S (pc + 2) k mk_isi else none
def mg_aload_n (k : Fin 4) (_ : mk_T) (S : mk_S) (pc : Nat) (l : Nat) : Option (mk_S × Nat) := if l = 1 then mk_ld S (pc + 1) k mk_isr else none
def mg_istore_n (k : Fin 4) (T : mk_T) (S : mk_S) (pc : Nat) (l : Nat) : Option (mk_S × Nat) := if l = 1 then mk_sto (mnL0 T) S (pc + 1) k mk_isi else none
def mg_istore (k : Nat) (T : mk_T) (S : mk_S) (pc : Nat) (l : Nat) : Option (mk_S × Nat) := if l = 2 then mk_sto (mnL0 T) S (pc + 2) k mk_isi else none
def mg_astore_n (k : Fin 4) (T : mk_T) (S : mk_S) (pc : Nat) (l : Nat) : Option (mk_S × Nat) := if l = 1 then mk_sto (mnL0 T) S (pc + 1) k mk_isr else none
def mg_iinc (k : Nat) (c : Int) (T : mk_T) (S : mk_S) (pc : Nat) (l : Nat) : Option (mk_S × Nat) := if l = 3 then mk_inc (mnL0 T) S (pc + 3) k c else none
def mg_goto (off : Int) (_ : mk_T) (S : mk_S) (pc : Nat) (l : Nat) : Option (mk_S × Nat) := if l = 3 then mk_goto S ((pc : Int) + off) else none
def mg_if_icmp (cd : ClassFile.Cond) (off : Int) (_ : mk_T) (S : mk_S) (pc : Nat) (l : Nat) : Option (mk_S × Nat) := if l = 3 then mk_icmp S pc cd off else none
def mg_ishr (_ : mk_T) (S : mk_S) (pc : Nat) (l : Nat) : Option (mk_S × Nat) := if l = 1 then mk_shr S (pc + 1) else none
def mg_arraylength (_ : mk_T) (S : mk_S) (pc : Nat) (l : Nat) : Option (mk_S × Nat) := if l = 1 then mk_alenG S (pc + 1) else none
theorem mge_arraylength {T : mk_T} {S : mk_S} {pc l : Nat}  : mg_arraylength  T S pc l = mk_st T S pc (.arraylength ) l := by
  unfold mg_arraylength
  rw [mk_alenG_f]
  rfl
def mg_dup (_ : mk_T) (S : mk_S) (pc : Nat) (l : Nat) : Option (mk_S × Nat) := if l = 1 then mk_dup S (pc + 1) else none
def mg_newarray (a : ArrayType) (T : mk_T) (S : mk_S) (pc : Nat) (l : Nat) : Option (mk_S × Nat) := if l = 2 then mk_narG T S (pc + 2) a else none
theorem mge_newarray {T : mk_T} {S : mk_S} {pc l : Nat} {a : ArrayType} : mg_newarray a T S pc l = mk_st T S pc (.newarray a) l := by
  unfold mg_newarray
  rw [mk_narG_f]
  rfl
def mg_anewarray (idx : Nat) (T : mk_T) (S : mk_S) (pc : Nat) (l : Nat) : Option (mk_S × Nat) := if l = 3 then mk_anrG T S (pc + 3) idx else none
theorem mge_anewarray {T : mk_T} {S : mk_S} {pc l : Nat} {idx : Nat} : mg_anewarray idx T S pc l = mk_st T S pc (.anewarray idx) l := by
  unfold mg_anewarray
  rw [mk_anrG_f]
  rfl
def mg_multianewarray (idx : Nat) (d : Nat) (T : mk_T) (S : mk_S) (pc : Nat) (l : Nat) : Option (mk_S × Nat) := if l = 4 ∧ d = 2 then mk_mnrG T S (pc + 4) idx else none
theorem mge_multianewarray {T : mk_T} {S : mk_S} {pc l : Nat} {idx : Nat} {d : Nat} : mg_multianewarray idx d T S pc l = mk_st T S pc (.multianewarray idx d) l := by
  unfold mg_multianewarray
  rw [mk_mnrG_f]
  rfl
def mg_new (idx : Nat) (T : mk_T) (S : mk_S) (pc : Nat) (l : Nat) : Option (mk_S × Nat) := if l = 3 then mk_newG T S (pc + 3) idx else none
theorem mge_new {T : mk_T} {S : mk_S} {pc l : Nat} {idx : Nat} : mg_new idx T S pc l = mk_st T S pc (.new idx) l := by
  unfold mg_new
  rw [mk_newG_f]
  rfl
def mg_getfield (idx : Nat) (T : mk_T) (S : mk_S) (pc : Nat) (l : Nat) : Option (mk_S × Nat) := if l = 3 then mk_getG T S (pc + 3) idx else none
theorem mge_getfield {T : mk_T} {S : mk_S} {pc l : Nat} {idx : Nat} : mg_getfield idx T S pc l = mk_st T S pc (.getfield idx) l := by
  unfold mg_getfield
  rw [mk_getG_f]
  rfl
def mg_putfield (idx : Nat) (T : mk_T) (S : mk_S) (pc : Nat) (l : Nat) : Option (mk_S × Nat) := if l = 3 then mk_putG T S (pc + 3) idx else none
theorem mge_putfield {T : mk_T} {S : mk_S} {pc l : Nat} {idx : Nat} : mg_putfield idx T S pc l = mk_st T S pc (.putfield idx) l := by
  unfold mg_putfield
  rw [mk_putG_f]
  rfl
def mg_iastore (_ : mk_T) (S : mk_S) (pc : Nat) (l : Nat) : Option (mk_S × Nat) := if l = 1 then mk_iastG S (pc + 1) else none
theorem mge_iastore {T : mk_T} {S : mk_S} {pc l : Nat}  : mg_iastore  T S pc l = mk_st T S pc (.iastore ) l := by
  unfold mg_iastore
  rw [mk_iastG_f]
  rfl
def mg_aastore (T : mk_T) (S : mk_S) (pc : Nat) (l : Nat) : Option (mk_S × Nat) := if l = 1 then mk_aastG T S (pc + 1) else none
theorem mge_aastore {T : mk_T} {S : mk_S} {pc l : Nat}  : mg_aastore  T S pc l = mk_st T S pc (.aastore ) l := by
  unfold mg_aastore
  rw [mk_aastG_f]
  rfl
def mg_invokestatic (idx : Nat) (T : mk_T) (S : mk_S) (pc : Nat) (l : Nat) : Option (mk_S × Nat) := if l = 3 then mk_call T S (pc + 3) (3 * idx + 1) else none
def mg_invokespecial (idx : Nat) (T : mk_T) (S : mk_S) (pc : Nat) (l : Nat) : Option (mk_S × Nat) := if l = 3 then mk_call T S (pc + 3) (3 * idx + 2) else none
def mk_stG (i : Instr) : mg_stp := match i with
  | .iconst v => mg_iconst v
  | .bipush v => mg_bipush v
  | .sipush v => mg_sipush v
  | .ldc idx => mg_ldc idx
  | .iload_n k => mg_iload_n k
  | .iload k => mg_iload k
  | .aload_n k => mg_aload_n k
  | .istore_n k => mg_istore_n k
  | .istore k => mg_istore k
  | .astore_n k => mg_astore_n k
  | .iinc k c => mg_iinc k c
  | .goto off => mg_goto off
  | .if_icmp cd off => mg_if_icmp cd off
  | .ishr => mg_ishr
  | .arraylength => mg_arraylength
  | .dup => mg_dup
  | .newarray a => mg_newarray a
  | .anewarray idx => mg_anewarray idx
  | .multianewarray idx d => mg_multianewarray idx d
  | .new idx => mg_new idx
  | .getfield idx => mg_getfield idx
  | .putfield idx => mg_putfield idx
  | .iastore => mg_iastore
  | .aastore => mg_aastore
  | .invokestatic idx => mg_invokestatic idx
  | .invokespecial idx => mg_invokespecial idx
  | _ => fun _ _ _ _ => none
theorem mk_stG_eq {T : mk_T} {S : mk_S} {pc l : Nat} {i : Instr} : mk_stG i T S pc l = mk_st T S pc i l := by
  cases i with
  | arraylength  => exact mge_arraylength
  | newarray a => exact mge_newarray
  | anewarray idx => exact mge_anewarray
  | multianewarray idx d => exact mge_multianewarray
  | new idx => exact mge_new
  | getfield idx => exact mge_getfield
  | putfield idx => exact mge_putfield
  | iastore  => exact mge_iastore
  | aastore  => exact mge_aastore
  | _ => rfl
/-- an end of the method -/
def mk_isR (i : Instr) : Bool := match i with
  | .return_ => true
  | .ireturn => true
  | .areturn => true
  | _ => false
theorem mk_isR_f {T : mk_T} {rt l : Nat} {S : mk_S} {i : Instr} (h : mk_isR i = false) : mk_ret T rt i l S = none := by
  cases i with
  | return_ => cases h
  | ireturn => cases h
  | areturn => cases h
  | _ => exact ite_self none
theorem mk_isR_t {T : mk_T} {S : mk_S} {pc l : Nat} {i : Instr} (h : mk_isR i = true) : mk_st T S pc i l = none := by
  cases i with
  | return_ => rfl
  | ireturn => rfl
  | areturn => rfl
  | _ => cases h
abbrev mk_cdG : Type := List (Nat × Bool × Instr × mg_stp × Nat)
def mk_gG (y : Nat × Instr × Nat) : Nat × Bool × Instr × mg_stp × Nat := (y.1, mk_isR y.2.1, y.2.1, mk_stG y.2.1, y.2.2)
def mk_fdG (code : mk_cdG) (pc : Nat) : Option (Nat × Bool × Instr × mg_stp × Nat) := @List.rec (Nat × Bool × Instr × mg_stp × Nat) (fun _ => Option (Nat × Bool × Instr × mg_stp × Nat)) none (fun y _ ih => match Nat.beq y.1 pc with
  | true => some y
  | false => ih) code
theorem mk_fdG_eq {pc : Nat} : ∀ {code : ck_cd}, mk_fdG (code.map mk_gG) pc = (code.find? (fun y => y.1 == pc)).map mk_gG
  | [] => rfl
  | y :: t => by
    have ih := mk_fdG_eq (pc := pc) (code := t)
    rw [List.find?_cons, ← ck_nb]
    show (match Nat.beq y.1 pc with
      | true => some (mk_gG y)
      | false => mk_fdG (t.map mk_gG) pc) = _
    rw [ih]
    cases Nat.beq y.1 pc <;> rfl
def mk_runG (T : mk_T) (rt : Nat) (code : mk_cdG) (f : Nat) : mk_S → Nat → Option (List mk_V × mk_W) :=
  @Nat.rec (fun _ => mk_S → Nat → Option (List mk_V × mk_W)) (fun _ _ => none) (fun _ ih S pc => match mk_fdG code pc with
    | none => none
    | some y => (match y.2.1 with
      | true => mk_ret T rt y.2.2.1 y.2.2.2.2 S
      | false => (match y.2.2.2.1 T S pc y.2.2.2.2 with
        | some x => ih x.1 x.2
        | none => none))) f
theorem mk_runG_eq {T : mk_T} {rt : Nat} {code : ck_cd} : ∀ (f : Nat) (S : mk_S) (pc : Nat), mk_runG T rt (code.map mk_gG) f S pc = mk_run T rt code f S pc
  | 0, _, _ => rfl
  | f + 1, S, pc => by
    show (match mk_fdG (code.map mk_gG) pc with
      | none => none
      | some y => (match y.2.1 with
        | true => mk_ret T rt y.2.2.1 y.2.2.2.2 S
        | false => (match y.2.2.2.1 T S pc y.2.2.2.2 with
          | some x => mk_runG T rt (code.map mk_gG) f x.1 x.2
          | none => none))) = _
    rw [mk_fdG_eq, mk_run]
    cases code.find? (fun y => y.1 == pc) with
    | none => rfl
    | some y =>
      show (match mk_isR y.2.1 with
        | true => mk_ret T rt y.2.1 y.2.2 S
        | false => (match mk_stG y.2.1 T S pc y.2.2 with
          | some x => mk_runG T rt (code.map mk_gG) f x.1 x.2
          | none => none)) = (match mk_ret T rt y.2.1 y.2.2 S with
        | some r => some r
        | none => match mk_st T S pc y.2.1 y.2.2 with
          | some x => mk_run T rt code f x.1 x.2
          | none => none)
      cases hR : mk_isR y.2.1 with
      | true =>
        rw [mk_isR_t (T := T) (S := S) (pc := pc) (l := y.2.2) hR]
        cases mk_ret T rt y.2.1 y.2.2 S <;> rfl
      | false =>
        rw [mk_isR_f (T := T) (rt := rt) (l := y.2.2) (S := S) hR, mk_stG_eq]
        cases mk_st T S pc y.2.1 y.2.2 with
        | none => rfl
        | some x => exact mk_runG_eq f x.1 x.2
def mk_fnG (T : mk_T) (rt : Nat) (code : mk_cdG) (f : Nat) : mk_F := fun W xs => if xs.length ≤ mnL0 T then mk_runG T rt code f (mk_ar 0 xs, [], W, 0, 0) 0 else none
theorem mk_fnG_eq {T : mk_T} {rt : Nat} {code : ck_cd} {cG : mk_cdG} (hc : code.map mk_gG = cG) {f : Nat} : mk_fnG T rt cG f = mk_fn T rt code f := by
  subst hc
  funext W xs
  unfold mk_fnG mk_fn
  rw [mk_runG_eq]
end
noncomputable section
/-! the makers' step is sound -/
def mk_ao (U : State) : Prop := va_AO "ReasonDesk$Bits" U ∧ va_AO "ReasonDesk$Entry" U ∧ va_AO "ReasonDesk$Rule" U ∧ va_AO "ReasonDesk$Thing" U ∧ mk_AI U
theorem mk_fe {α : Type} {f : α → Nat} {l : List α} {i : Nat} {y : α} (h : l.find? (fun x => f x == i) = some y) : f y = i := by
  have h2 := List.find?_some h
  exact eq_of_beq h2
theorem mk_AI.moved {u U : State} (hvm : u.vm.Alike U.vm) (h : mk_AI u) : mk_AI U := by
  obtain ⟨comp, cA, kA, h1, h2, h3, h4⟩ := h
  obtain ⟨kA', h5, h6⟩ := hvm.2.2 _ _ h2
  refine ⟨comp, cA, kA', ?_, h5, by rw [h6]; exact h3, ?_⟩
  · rw [hvm.findClass]; exact h1
  · rw [hvm.findClass]; exact h4
theorem mk_ao.moved {u U : State} (hvm : u.vm.Alike U.vm) (h : mk_ao u) : mk_ao U := ⟨h.1.moved hvm, h.2.1.moved hvm, h.2.2.1.moved hvm, h.2.2.2.1.moved hvm, h.2.2.2.2.moved hvm⟩
theorem mk_RA {U : State} {ty : FieldType} {a b : ClassId} (h : va_RA U a ty) (h2 : va_RA U b ty) : a = b := by
  cases ty with
  | object C =>
    obtain ⟨-, -, -, -, -, h3⟩ := h
    obtain ⟨-, -, -, -, -, h4⟩ := h2
    exact Option.some.inj (h3.symm.trans h4)
  | _ =>
    unfold va_RA at h h2
    exact Option.some.inj (h.symm.trans h2)
theorem ck_two_get {α β : Type} {P : α → β → Prop} : ∀ {l : List α} {r : List β}, l.length = r.length → (∀ (j : Nat) (a : α) (b : β), l[j]? = some a → r[j]? = some b → P a b) → ck_two P l r
  | [], [], _, _ => trivial
  | a :: l, b :: r, h, hp => ⟨hp 0 a b rfl rfl, ck_two_get (Nat.succ.inj h) (fun j x y h1 h2 => hp (j + 1) x y (by simpa using h1) (by simpa using h2))⟩
  | [], _ :: _, h, _ => by cases h
  | _ :: _, [], h, _ => by cases h
theorem ck_two_at {α β : Type} {P : α → β → Prop} : ∀ {l : List α} {r : List β}, ck_two P l r → ∀ (j : Nat) (a : α), l[j]? = some a → ∃ b, r[j]? = some b ∧ P a b
  | a :: l, b :: r, h, 0, x, hx => ⟨b, rfl, by rw [← Option.some.inj hx]; exact h.1⟩
  | a :: l, b :: r, h, j + 1, x, hx => ck_two_at h.2 j x (by simpa using hx)
  | [], _, _, _, _, hx => by simp at hx
  | _ :: _, [], h, _, _, _ => h.elim
theorem ck_two_set {α β : Type} {P : α → β → Prop} {x : α} {y : β} (hxy : P x y) : ∀ {l : List α} {r : List β} (k : Nat), ck_two P l r → ck_two P (l.set k x) (r.set k y)
  | [], [], _, _ => trivial
  | a :: l, b :: r, 0, h => ⟨hxy, h.2⟩
  | a :: l, b :: r, k + 1, h => ⟨h.1, ck_two_set hxy k h.2⟩
  | [], _ :: _, _, h => h.elim
  | _ :: _, [], _, h => h.elim
def mk_so (tys : List (ClassId × FieldType)) (nL : Nat) (S : mk_S) (ws : va_W) (ls : Array Slot) (vs : List Value) : Prop :=
  (∃ lv, lv_has ls nL lv ∧ ck_two (fun (x : Nat × mk_V) (y : Nat × Value) => x.1 = y.1 ∧ mk_vo ws x.2 y.2) S.1 lv) ∧ ck_two (mk_vo ws) S.2.1 vs ∧ mk_wo tys ws S.2.2.1
theorem mk_so.look {tys : List (ClassId × FieldType)} {nL : Nat} {S : mk_S} {ws : va_W} {ls : Array Slot} {vs : List Value} (h : mk_so tys nL S ws ls vs) {i : Nat} {v : mk_V} (hv : mk_look S.1 i = some v) : ∃ x, ls[i]? = some (.val x) ∧ mk_vo ws v x ∧ ∃ lv, lv_has ls nL lv ∧ (i, x) ∈ lv ∧ ck_two (fun (x : Nat × mk_V) (y : Nat × Value) => x.1 = y.1 ∧ mk_vo ws x.2 y.2) S.1 lv := by
  obtain ⟨⟨lv, h1, h2⟩, -⟩ := h
  unfold mk_look at hv
  cases hf : S.1.find? (fun q => q.1 == i) with
  | none => rw [hf] at hv; cases hv
  | some q =>
    rw [hf] at hv
    have e : q.2 = v := Option.some.inj hv
    subst e
    have hm := List.mem_of_find?_eq_some hf
    have hi : q.1 = i := mk_fe hf
    obtain ⟨y, hy, e1, e2⟩ := ck_two.mem h2 hm
    have hy1 : y.1 = i := by rw [← e1, hi]
    exact ⟨y.2, by rw [← hy1]; exact h1.2.2 y hy, e2, lv, h1, by rw [← hy1]; exact hy, h2⟩
theorem mk_flt {ws : va_W} {i : Nat} (x : Nat × mk_V) (y : Nat × Value) (h : x.1 = y.1 ∧ mk_vo ws x.2 y.2) : (!(x.1 == i)) = (!(y.1 == i) && !(y.1 + 1 == i && y.2.category == 2)) := by
  have hc : (y.2.category == 2) = false := by rw [h.2.cat]; rfl
  rw [h.1, hc, Bool.and_false, Bool.not_false, Bool.and_true]
theorem mk_cmp_ok {cd : ClassFile.Cond} {x y : Int} : mk_cmp cd x y = true ↔ ck_cm cd x y := by
  cases cd <;> simp [mk_cmp, ck_cm]
section
variable {p : Program} {l : Launch} {e : Env} {R : Room} {s : State} {m : MethodId} {args : Array Value} {below : List Frame} {meth : Method} {c : Code} {Q : State → Prop} {cc : ByteArray} {own : String} {D : va_G} {V : ck_Wd} {tys : List (ClassId × FieldType)} {T : mk_T} {A : Nat → Prop} {ws0 : va_W} {S : mk_S} {x : mk_S × Nat} {pc pc' : Nat}
def mk_g (p : Program) (l : Launch) (e : Env) (R : Room) (s : State) (m : MethodId) (args : Array Value) (below : List Frame) (meth : Method) (c : Code) (Q : State → Prop) (D : va_G) (cl : List vw_C) (tys : List (ClassId × FieldType)) (nL : Nat) (A : Nat → Prop) (ws0 : va_W) (S : mk_S) (pc : Nat) : Prop :=
  ∀ (ws : va_W) (H : Heap) (locs : List Loc) (ls : Array Slot) (vs : List Value), mk_so tys nL S ws ls vs → mk_le ws0 ws → va_P D cl ws H → va_D A ws → va_S A s.heap H locs → W p l e R s m args below meth c H locs S.2.2.2.1 S.2.2.2.2 Q (F0 m pc ls vs)
def mk_cx (p : Program) (e : Env) (R : Room) (s : State) (m : MethodId) (args : Array Value) (meth : Method) (c : Code) (cc : ByteArray) (own : String) (D : va_G) (V : ck_Wd) (tys : List (ClassId × FieldType)) (T : mk_T) (A : Nat → Prop) : Prop :=
  p.tables.exec = Jvm.exec ∧ c.code = cc ∧ s.vm.findClass own = some m.cls ∧ va_K D V.1 tys s ∧ (∀ q, s.heap.size ≤ q → A q) ∧ c.maxLocals = mnL0 T ∧ (mRC0 T ≤ R.cells ∧ mRS0 T ≤ R.slots) ∧ meth.locks = false ∧ (∀ w ∈ V.2.2.2.2.1, w.before args s = true) ∧ tys.map Prod.snd = V.2.2.2.1 ∧ ck_nq V s ∧ mk_ao s
theorem mk_cst_ok {v : Int} {ok : Bool} {w : Int32} (h : mk_cst S pc' v ok = some x) (hw : ok = true → w.toInt = v) (hk : mk_g p l e R s m args below meth c Q D V.1 tys (mnL0 T) A ws0 x.1 x.2)
    (row : ∀ (H : Heap) (locs : List Loc) (ls : Array Slot) (vs : List Value), W p l e R s m args below meth c H locs S.2.2.2.1 S.2.2.2.2 Q (F0 m pc' ls (.int w :: vs)) → W p l e R s m args below meth c H locs S.2.2.2.1 S.2.2.2.2 Q (F0 m pc ls vs)) : mk_g p l e R s m args below meth c Q D V.1 tys (mnL0 T) A ws0 S pc := by
  unfold mk_cst at h
  split at h
  · rename_i hok
    cases h
    exact fun ws H locs ls vs o hle hP hD hS => row H locs ls vs (hk ws H locs ls _ ⟨o.1, ⟨mk_vo.int (hw hok), o.2.1⟩, o.2.2⟩ hle hP hD hS)
  · cases h
theorem mk_ld_ok {i : Nat} {ok : mk_V → Bool} (h : mk_ld S pc' i ok = some x) (hk : mk_g p l e R s m args below meth c Q D V.1 tys (mnL0 T) A ws0 x.1 x.2)
    (row : ∀ (H : Heap) (locs : List Loc) (ls : Array Slot) (vs : List Value) (v : Value) (av : mk_V) (ws : va_W), ok av = true → mk_vo ws av v → ls[i]? = some (.val v) → W p l e R s m args below meth c H locs S.2.2.2.1 S.2.2.2.2 Q (F0 m pc' ls (v :: vs)) → W p l e R s m args below meth c H locs S.2.2.2.1 S.2.2.2.2 Q (F0 m pc ls vs)) : mk_g p l e R s m args below meth c Q D V.1 tys (mnL0 T) A ws0 S pc := by
  unfold mk_ld at h
  split at h
  · rename_i av hav
    split at h
    · rename_i hok
      cases h
      intro ws H locs ls vs o hle hP hD hS
      obtain ⟨v, h1, h2, -⟩ := o.look hav
      exact row H locs ls vs v av ws hok h2 h1 (hk ws H locs ls _ ⟨o.1, ⟨h2, o.2.1⟩, o.2.2⟩ hle hP hD hS)
    · cases h
  · cases h
theorem mk_sto_ok {i nL : Nat} {ok : mk_V → Bool} (h : mk_sto nL S pc' i ok = some x) (hk : mk_g p l e R s m args below meth c Q D V.1 tys nL A ws0 x.1 x.2)
    (row : ∀ (H : Heap) (locs : List Loc) (ls : Array Slot) (vs : List Value) (v : Value) (av : mk_V) (ws : va_W) (lv : List (Nat × Value)), ok av = true → mk_vo ws av v → lv_has ls nL lv → i < nL → (∀ ls' : Array Slot, lv_has ls' nL ((i, v) :: lv.filter (fun q => !(q.1 == i) && !(q.1 + 1 == i && q.2.category == 2))) → W p l e R s m args below meth c H locs S.2.2.2.1 S.2.2.2.2 Q (F0 m pc' ls' vs)) → W p l e R s m args below meth c H locs S.2.2.2.1 S.2.2.2.2 Q (F0 m pc ls (v :: vs))) : mk_g p l e R s m args below meth c Q D V.1 tys nL A ws0 S pc := by
  unfold mk_sto at h
  split at h
  · rename_i av st hst
    split at h
    · rename_i hok
      cases h
      intro ws H locs ls vs o hle hP hD hS
      obtain ⟨⟨lv, l1, l2⟩, o2, o3⟩ := o
      rw [hst] at o2
      cases vs with
      | nil => exact o2.elim
      | cons v vs =>
        exact row H locs ls vs v av ws lv hok.1 o2.1 l1 hok.2 (fun ls' hls' => hk ws H locs ls' vs ⟨⟨_, hls', ⟨⟨rfl, o2.1⟩, l2.flt mk_flt⟩⟩, o2.2, o3⟩ hle hP hD hS)
    · cases h
  · cases h
theorem mk_inc_ok (X : mk_cx p e R s m args meth c cc own D V tys T A) {i : Nat} {k : Int} (h : mk_inc (mnL0 T) S (pc + 3) i k = some x) (hk : mk_g p l e R s m args below meth c Q D V.1 tys (mnL0 T) A ws0 x.1 x.2) (hdg : decode cc pc = .ok (.iinc i k, 3)) : mk_g p l e R s m args below meth c Q D V.1 tys (mnL0 T) A ws0 S pc := by
  unfold mk_inc at h
  split at h
  · rename_i av hav
    split at h
    · rename_i hok
      obtain ⟨h1, h2, h3, h4⟩ := hok
      cases h
      intro ws H locs ls vs o hle hP hD hS
      obtain ⟨v, -, g2, lv, g3, g4, g5⟩ := o.look hav
      obtain ⟨w, rfl, ew⟩ := g2.i h1
      obtain ⟨j, hj⟩ := List.getElem?_of_mem g4
      refine lv_iinc X.1 X.2.1 (v := w + Int32.ofInt k) hdg g3 hj rfl h2 rfl (fun ls' hls' => ?_)
      refine hk ws H locs ls' vs ⟨⟨_, hls', ⟨⟨rfl, mk_vo.int ?_⟩, g5.flt mk_flt⟩⟩, o.2.1, o.2.2⟩ hle hP hD hS
      unfold mk_in32 at h4
      rw [decide_eq_true_eq] at h4
      have hkk : (Int32.ofInt k).toInt = k := Int32.toInt_ofInt_of_le (by omega) (by omega)
      rw [Int32.toInt_add, hkk, ew]
      exact Int.bmod_eq_of_le (by omega) (by omega)
    · cases h
  · cases h
theorem mk_goto_ok (X : mk_cx p e R s m args meth c cc own D V tys T A) {off : Int} (h : mk_goto S ((pc : Int) + off) = some x) (hk : mk_g p l e R s m args below meth c Q D V.1 tys (mnL0 T) A ws0 x.1 x.2) (hdg : decode cc pc = .ok (.goto off, 3)) : mk_g p l e R s m args below meth c Q D V.1 tys (mnL0 T) A ws0 S pc := by
  unfold mk_goto at h
  split at h
  · rename_i h0
    cases h
    exact fun ws H locs ls vs o hle hP hD hS => lv_goto X.1 X.2.1 hdg (tgt := ((pc : Int) + off).toNat) (by omega) (hk ws H locs ls vs o hle hP hD hS)
  · cases h
theorem mk_row_icmp (hexec : p.tables.exec = Jvm.exec) (hb : c.code = cc) {cd : ClassFile.Cond} {off : Int} {tgt : Nat} {x y : Int32} {H : Heap} {locs : List Loc} {ls : Array Slot} {cells slots : Nat} {rest : List Value} (hdg : decode cc pc = .ok (.if_icmp cd off, 3)) (ht : (pc : Int) + off = (tgt : Int))
    (kt : ck_cm cd x.toInt y.toInt → W p l e R s m args below meth c H locs cells slots Q (F0 m tgt ls rest)) (kf : ¬ ck_cm cd x.toInt y.toInt → W p l e R s m args below meth c H locs cells slots Q (F0 m (pc + 3) ls rest)) : W p l e R s m args below meth c H locs cells slots Q (F0 m pc ls (.int y :: .int x :: rest)) := by
  have e := @ck_cmI cd x y
  cases cd
  · exact lv_icmp_eq hexec hb hdg ht (fun h => kt (e.mpr h)) (fun h => kf (fun z => h (e.mp z)))
  · exact lv_icmp_ne hexec hb hdg ht (fun h => kt (e.mpr h)) (fun h => kf (fun z => e.mp z h))
  · exact lv_icmp_lt hexec hb hdg ht (fun h => kt (e.mpr h)) (fun h => kf (fun z => h (e.mp z)))
  · exact lv_icmp_ge hexec hb hdg ht (fun h => kt (e.mpr h)) (fun h => kf (fun z => h (e.mp z)))
  · exact lv_icmp_gt hexec hb hdg ht (fun h => kt (e.mpr h)) (fun h => kf (fun z => h (e.mp z)))
  · exact lv_icmp_le hexec hb hdg ht (fun h => kt (e.mpr h)) (fun h => kf (fun z => h (e.mp z)))
theorem mk_icmp_ok (X : mk_cx p e R s m args meth c cc own D V tys T A) {cd : ClassFile.Cond} {off : Int} (h : mk_icmp S pc cd off = some x) (hk : mk_g p l e R s m args below meth c Q D V.1 tys (mnL0 T) A ws0 x.1 x.2) (hdg : decode cc pc = .ok (.if_icmp cd off, 3)) : mk_g p l e R s m args below meth c Q D V.1 tys (mnL0 T) A ws0 S pc := by
  unfold mk_icmp at h
  split at h
  · rename_i y z st hst
    split at h
    · rename_i hc
      intro ws H locs ls vs o hle hP hD hS
      obtain ⟨o1, o2, o3⟩ := o
      rw [hst] at o2
      cases vs with
      | nil => exact o2.elim
      | cons v1 vs =>
        cases vs with
        | nil => exact o2.2.elim
        | cons v2 vs =>
          obtain ⟨w1, rfl, e1⟩ := o2.1.i hc.2.1
          obtain ⟨w2, rfl, e2⟩ := o2.2.1.i hc.1
          have hc3 := hc.2.2
          refine mk_row_icmp X.1 X.2.1 hdg (tgt := ((pc : Int) + off).toNat) (by omega) (fun g => ?_) (fun g => ?_)
          · rw [e1, e2] at g
            rw [if_pos (mk_cmp_ok.mpr g)] at h
            cases h
            exact hk ws H locs ls vs ⟨o1, o2.2.2, o3⟩ hle hP hD hS
          · rw [e1, e2] at g
            rw [if_neg (fun q => g (mk_cmp_ok.mp q))] at h
            cases h
            exact hk ws H locs ls vs ⟨o1, o2.2.2, o3⟩ hle hP hD hS
    · cases h
  · cases h
theorem mk_shr_ok (X : mk_cx p e R s m args meth c cc own D V tys T A) (h : mk_shr S (pc + 1) = some x) (hk : mk_g p l e R s m args below meth c Q D V.1 tys (mnL0 T) A ws0 x.1 x.2) (hdg : decode cc pc = .ok (.ishr, 1)) : mk_g p l e R s m args below meth c Q D V.1 tys (mnL0 T) A ws0 S pc := by
  unfold mk_shr at h
  split at h
  · rename_i y z st hst
    split at h
    · rename_i hc
      obtain ⟨c1, c2, c3, c4⟩ := hc
      cases h
      intro ws H locs ls vs o hle hP hD hS
      obtain ⟨o1, o2, o3⟩ := o
      rw [hst] at o2
      cases vs with
      | nil => exact o2.elim
      | cons v1 vs =>
        cases vs with
        | nil => exact o2.2.elim
        | cons v2 vs =>
          obtain ⟨w1, rfl, e1⟩ := o2.1.i c2
          obtain ⟨w2, rfl, e2⟩ := o2.2.1.i c1
          refine lv_ishr X.1 X.2.1 hdg (hk ws H locs ls _ ⟨o1, ⟨mk_vo.int ?_, o2.2.2⟩, o3⟩ hle hP hD hS)
          rw [ck_shr32 (k := y.2.1.toNat) (by omega) (by omega), BitVec.toInt_sshiftRight]
          show w2.toInt >>> _ = _
          rw [e2]
    · cases h
  · cases h
theorem mk_dup_ok (X : mk_cx p e R s m args meth c cc own D V tys T A) (h : mk_dup S (pc + 1) = some x) (hk : mk_g p l e R s m args below meth c Q D V.1 tys (mnL0 T) A ws0 x.1 x.2) (hdg : decode cc pc = .ok (.dup, 1)) : mk_g p l e R s m args below meth c Q D V.1 tys (mnL0 T) A ws0 S pc := by
  unfold mk_dup at h
  split at h
  · rename_i y st hst
    cases h
    intro ws H locs ls vs o hle hP hD hS
    obtain ⟨o1, o2, o3⟩ := o
    rw [hst] at o2
    cases vs with
    | nil => exact o2.elim
    | cons v1 vs => exact lv_dup X.1 X.2.1 hdg o2.1.cat (hk ws H locs ls _ ⟨o1, ⟨o2.1, o2.1, o2.2⟩, o3⟩ hle hP hD hS)
  · cases h
theorem mk_arr {c0 : mk_C} {e0 : va_E} {ws : va_W} (h : mk_co tys ws c0 e0) (h0 : c0.1 ≠ 0) : ∃ (cA : ClassId) (a : vp_A) (ty : FieldType), e0 = .inl (cA, a) ∧ a.1 = c0.2.2.1 ∧ tys[c0.2.1]? = some (cA, ty) := by
  unfold mk_co at h
  split at h
  · rename_i z; exact absurd z h0
  · obtain ⟨cA, f, h1, rfl, -⟩ := h
    exact ⟨_, _, _, rfl, rfl, h1⟩
  · obtain ⟨cA, f, h1, rfl⟩ := h
    exact ⟨_, _, _, rfl, rfl, h1⟩
  · obtain ⟨cA, C, f, h1, rfl, -⟩ := h
    exact ⟨_, _, _, rfl, rfl, h1⟩
  · obtain ⟨cA, f, h1, rfl, -⟩ := h
    exact ⟨_, _, _, rfl, rfl, h1⟩
  · obtain ⟨cA, f, h1, rfl, -⟩ := h
    exact ⟨_, _, _, rfl, rfl, h1⟩
theorem mk_alen_ok (X : mk_cx p e R s m args meth c cc own D V tys T A) (h : mk_alen S (pc + 1) = some x) (hk : mk_g p l e R s m args below meth c Q D V.1 tys (mnL0 T) A ws0 x.1 x.2) (hdg : decode cc pc = .ok (.arraylength, 1)) : mk_g p l e R s m args below meth c Q D V.1 tys (mnL0 T) A ws0 S pc := by
  unfold mk_alen at h
  split at h
  · rename_i r st hst
    split at h
    · rename_i hr
      split at h
      · rename_i c0 hc0
        split at h
        · rename_i hc
          cases h
          intro ws H locs ls vs o hle hP hD hS
          obtain ⟨o1, o2, o3⟩ := o
          rw [hst] at o2
          cases vs with
          | nil => exact o2.elim
          | cons v1 vs =>
            obtain ⟨a, e1, h1, rfl⟩ := o2.1.r hr
            obtain ⟨cA, a0, ty, rfl, h3, h4⟩ := mk_arr (o3.2 _ _ _ _ h1 hc0) hc.1
            refine va_alen X.1 X.2.1 X.2.2.2.1 hP r.2.2 _ h1 h4 rfl hdg (hk ws H locs ls _ ⟨o1, ⟨mk_vo.int ?_, o2.2⟩, o3⟩ hle hP hD hS)
            rw [h3]
            exact Int32.toInt_ofNat_of_lt (by omega)
        · cases h
      · cases h
    · cases h
  · cases h
end
end
noncomputable section
/-! the makers: cells that are made, read and written; calls -/
def mk_bs (V : ck_Wd) : Prop := (Cond.arrayClass .int ∈ V.2.2.2.2.1 ∧ Cond.arrayClass .long ∈ V.2.2.2.2.1 ∧ Cond.arrayClass .boolean ∈ V.2.2.2.2.1) ∧ V.2.2.2.1[0]? = some .int ∧ V.2.2.2.1[1]? = some .long ∧ V.2.2.2.1[2]? = some .boolean
theorem mk_tyk {V : ck_Wd} {tys : List (ClassId × FieldType)} {k : Nat} {ty : FieldType} (htl : tys.map Prod.snd = V.2.2.2.1) (hk : V.2.2.2.1[k]? = some ty) : ∃ cA, tys[k]? = some (cA, ty) := by
  rw [← htl, List.getElem?_map] at hk
  cases he : tys[k]? with
  | none => rw [he] at hk; cases hk
  | some x =>
    rw [he] at hk
    exact ⟨x.1, by rw [← Option.some.inj hk]⟩
theorem mk_same {D : va_G} {cl : List vw_C} {tys : List (ClassId × FieldType)} {U : State} {cA c0 : ClassId} {ty : FieldType} {k : Nat} (h1 : va_K D cl (tys ++ [(cA, ty)]) U) (h2 : va_K D cl tys U) (h0 : tys[k]? = some (c0, ty)) : cA = c0 :=
  mk_RA (h1.2 tys.length (cA, ty) (by simp)).2 (h2.2 k _ h0).2
def mk_hn (s : State) (args : Array Value) (own : String) (cl : List vw_C) (x : Nat × Nat × Nat × List mk_V) : Prop := ∃ (C : String) (T : u_T) (Ts : List Cond) (ty : Nat → FieldType), (∀ w ∈ Ts, w.before args s = true) ∧ (∀ w ∈ u_ws C T x.2.2.1, w ∈ Ts) ∧ (∀ k, k < x.2.2.1 → parseFieldDescriptor (T k).2.2.1 = some (ty k)) ∧ (Cond.classLink own x.1 C).before args s = true ∧ (Cond.instantiable C x.2.2.1).before args s = true ∧ (Cond.initialized C).before args s = true ∧ cl[x.2.1]? = some (C, T, x.2.2.1) ∧
  ∀ j, j < x.2.2.1 → ∃ v, x.2.2.2[j]? = some v ∧ mk_vo [] v (defaultValue (ty j))
def mk_ha (s : State) (args : Array Value) (own : String) (tys : List (ClassId × FieldType)) (x : Nat × Nat) : Prop := ∃ (C : String) (cA : ClassId), tys[x.2]? = some (cA, .object C) ∧ (Cond.classLink own x.1 C).before args s = true ∧ va_AO C s
def mk_hs (tys : List (ClassId × FieldType)) (cl : List vw_C) (x : Nat × Nat) : Prop := ∃ (cA : ClassId) (r : vw_C), tys[x.1]? = some (cA, .object r.1) ∧ cl[x.2]? = some r
section
variable {p : Program} {l : Launch} {e : Env} {R : Room} {s : State} {m : MethodId} {args : Array Value} {below : List Frame} {meth : Method} {c : Code} {Q : State → Prop} {cc : ByteArray} {own : String} {D : va_G} {V : ck_Wd} {tys : List (ClassId × FieldType)} {T : mk_T} {A : Nat → Prop} {ws0 : va_W} {S : mk_S} {x : mk_S × Nat} {pc pc' : Nat}
theorem mk_new1 {nL : Nat} {ws : va_W} {ls : Array Slot} {vs : List Value} {st : List mk_V} {W : mk_W} {loc : List (Nat × mk_V)} {cells slots : Nat} {c0 : mk_C} {q : Nat} {e0 : va_E} (o1 : ∃ lv, lv_has ls nL lv ∧ ck_two (fun (x : Nat × mk_V) (y : Nat × Value) => x.1 = y.1 ∧ mk_vo ws x.2 y.2) loc lv) (o2 : ck_two (mk_vo ws) st vs) (o3 : mk_wo tys ws W) (hc : mk_co tys (ws ++ [(q, e0)]) c0 e0) :
    mk_so tys nL (loc, (2, 0, W.length) :: st, W ++ [c0], cells, slots) (ws ++ [(q, e0)]) ls (.ref q :: vs) := by
  obtain ⟨lv, l1, l2⟩ := o1
  refine ⟨⟨lv, l1, l2.imp fun _ _ z => ⟨z.1, z.2.mv mk_le.app⟩⟩, ⟨⟨q, e0, ?_, rfl⟩, o2.imp fun _ _ z => z.mv mk_le.app⟩, o3.app hc⟩
  show (ws ++ [(q, e0)])[W.length]? = _
  rw [← o3.1]
  simp
theorem mk_nar_ok (X : mk_cx p e R s m args meth c cc own D V tys T A) (B : mk_bs V) {a : ArrayType} (h : mk_nar T S (pc + 2) a = some x) (hk : mk_g p l e R s m args below meth c Q D V.1 tys (mnL0 T) A ws0 x.1 x.2) (hdg : decode cc pc = .ok (.newarray a, 2)) : mk_g p l e R s m args below meth c Q D V.1 tys (mnL0 T) A ws0 S pc := by
  obtain ⟨x1, x2, x3, x4, x5, x6, x7, x8, x9, x10, x11, x12⟩ := X
  obtain ⟨⟨b1, b2, b3⟩, b4, b5, b6⟩ := B
  unfold mk_nar at h
  split at h
  · rename_i v st y hst hy
    split at h
    · rename_i hc
      obtain ⟨c1, c2, c3⟩ := hc
      unfold mk_al at h
      split at h
      · rename_i hc4
        cases h
        intro ws H locs ls vs o hle hP hD hS
        obtain ⟨o1, o2, o3⟩ := o
        rw [hst] at o2
        cases vs with
        | nil => exact o2.elim
        | cons v1 vs =>
          obtain ⟨w, rfl, ew⟩ := o2.1.i c1
          have hneg : ¬ w < 0 := fun z => by
            have := Int32.lt_iff_toInt_lt.mp z
            rw [Int32.toInt_zero] at this
            omega
          have hN : w.toNatClampNeg = v.2.1.toNat := by show w.toInt.toNat = _; rw [ew]
          have hce : S.2.2.2.1 + 1 ≤ R.cells := Nat.le_trans hc4.1 x7.1
          have hsl : S.2.2.2.2 + v.2.1.toNat ≤ R.slots := Nat.le_trans hc4.2 x7.2
          have fin : ∀ (q : Nat) (cA : ClassId) (a0 : vp_A) (H1 : Heap), mk_co tys (ws ++ [(q, .inl (cA, a0))]) (y.1, y.2, v.2.1.toNat, []) (.inl (cA, a0)) → va_P D V.1 (ws ++ [(q, .inl (cA, a0))]) H1 → va_D A (ws ++ [(q, .inl (cA, a0))]) → va_S A s.heap H1 locs → W p l e R s m args below meth c H1 locs (S.2.2.2.1 + 1) (S.2.2.2.2 + v.2.1.toNat) Q (F0 m (pc + 2) ls (.ref q :: vs)) :=
            fun q cA a0 H1 hco hP1 hD1 hS1 => hk _ H1 locs ls _ (mk_new1 o1 o2.2 o3 hco) (hle.tr mk_le.app) hP1 hD1 hS1
          have at0 : ∀ (k t n i : Nat), mk_at (k, t, n, []) i = mk_df k := fun k t n i => rfl
          unfold mk_at0 at hy
          split at hy
          · cases hy
            obtain ⟨cB, hB⟩ := mk_tyk x10 b4
            exact va_newa x1 x2 (atype := .int) (x9 _ b1) (ty := .int) rfl x4 hP hD hS x5 (a0 := (v.2.1.toNat, .inl (fun _ => 0))) (fun _ => rfl) hneg hN (by show _ * 4 ≤ _; omega) hce hsl hdg (fun q cA H1 hK1 hP1 hD1 hS1 => fin q cA _ H1 ⟨cA, _, by rw [mk_same hK1 x4 hB]; exact hB, rfl, fun i => by rw [at0]; exact mk_vo.int rfl⟩ hP1 hD1 hS1)
          · cases hy
            obtain ⟨cB, hB⟩ := mk_tyk x10 b5
            exact va_newa x1 x2 (atype := .long) (x9 _ b2) (ty := .long) rfl x4 hP hD hS x5 (a0 := (v.2.1.toNat, .inr (.inl (fun _ => 0)))) (fun _ => rfl) hneg hN (by show _ * 8 ≤ _; omega) hce hsl hdg (fun q cA H1 hK1 hP1 hD1 hS1 => fin q cA _ H1 ⟨cA, _, by rw [mk_same hK1 x4 hB]; exact hB, rfl⟩ hP1 hD1 hS1)
          · cases hy
            obtain ⟨cB, hB⟩ := mk_tyk x10 b6
            exact va_newa x1 x2 (atype := .boolean) (x9 _ b3) (ty := .boolean) rfl x4 hP hD hS x5 (a0 := (v.2.1.toNat, .inl (fun _ => 0))) (fun _ => rfl) hneg hN (by show _ * 1 ≤ _; omega) hce hsl hdg (fun q cA H1 hK1 hP1 hD1 hS1 => fin q cA _ H1 ⟨cA, _, by rw [mk_same hK1 x4 hB]; exact hB, rfl, fun i => rfl⟩ hP1 hD1 hS1)
          · cases hy
      · cases h
    · cases h
  · cases h
theorem mk_anr_ok (X : mk_cx p e R s m args meth c cc own D V tys T A) (han : ∀ y ∈ man0 T, mk_ha s args own tys y) {idx : Nat} (h : mk_anr T S (pc + 3) idx = some x) (hk : mk_g p l e R s m args below meth c Q D V.1 tys (mnL0 T) A ws0 x.1 x.2) (hdg : decode cc pc = .ok (.anewarray idx, 3)) : mk_g p l e R s m args below meth c Q D V.1 tys (mnL0 T) A ws0 S pc := by
  obtain ⟨x1, x2, x3, x4, x5, x6, x7, x8, x9, x10, x11, x12⟩ := X
  unfold mk_anr at h
  split at h
  · rename_i v st y hst hy
    split at h
    · rename_i hc
      obtain ⟨c1, c2, c3⟩ := hc
      unfold mk_al at h
      split at h
      · rename_i hc4
        cases h
        obtain ⟨C, cB, g1, g2, g3⟩ := han y (List.mem_of_find?_eq_some hy)
        rw [mk_fe hy] at g2
        intro ws H locs ls vs o hle hP hD hS
        obtain ⟨o1, o2, o3⟩ := o
        rw [hst] at o2
        cases vs with
        | nil => exact o2.elim
        | cons v1 vs =>
          obtain ⟨w, rfl, ew⟩ := o2.1.i c1
          have hneg : ¬ w < 0 := fun z => by
            have := Int32.lt_iff_toInt_lt.mp z
            rw [Int32.toInt_zero] at this
            omega
          have hN : w.toNatClampNeg = v.2.1.toNat := by show w.toInt.toNat = _; rw [ew]
          have hce : S.2.2.2.1 + 1 ≤ R.cells := Nat.le_trans hc4.1 x7.1
          have hsl : S.2.2.2.2 + v.2.1.toNat ≤ R.slots := Nat.le_trans hc4.2 x7.2
          exact va_newq x1 x2 x3 g2 g3 x4 hP hD hS x5 hneg hN (by omega) hce hsl hdg (fun q cA H1 hK1 hP1 hD1 hS1 => hk _ H1 locs ls _ (mk_new1 o1 o2.2 o3 ⟨cA, C, fun _ => none, by rw [mk_same hK1 x4 g1]; exact g1, rfl, fun i => rfl⟩) (hle.tr mk_le.app) hP1 hD1 hS1)
      · cases h
    · cases h
  · cases h
theorem mk_new_ok (X : mk_cx p e R s m args meth c cc own D V tys T A) (hnw : ∀ y ∈ mnw0 T, mk_hn s args own V.1 y) {idx : Nat} (h : mk_new T S (pc + 3) idx = some x) (hk : mk_g p l e R s m args below meth c Q D V.1 tys (mnL0 T) A ws0 x.1 x.2) (hdg : decode cc pc = .ok (.new idx, 3)) : mk_g p l e R s m args below meth c Q D V.1 tys (mnL0 T) A ws0 S pc := by
  obtain ⟨x1, x2, x3, x4, x5, x6, x7, x8, x9, x10, x11, x12⟩ := X
  unfold mk_new at h
  split at h
  · rename_i y hy
    split at h
    · rename_i hlen
      unfold mk_al at h
      split at h
      · rename_i hc4
        cases h
        obtain ⟨C, T0, Ts, ty, l1, l2, l3, l4, l5, l6, l7, l8⟩ := hnw y (List.mem_of_find?_eq_some hy)
        have ei : y.1 = idx := mk_fe hy
        rw [ei] at l4
        intro ws H locs ls vs o hle hP hD hS
        obtain ⟨o1, o2, o3⟩ := o
        have hfs : ∀ j, j < y.2.2.1 → defaultValue (ty j) = vp_V ((List.range y.2.2.1).map fun j => defaultValue (ty j)) j := fun j hj => by simp [vp_V, hj]
        refine va_new x1 x2 l1 l2 ty l3 x3 l4 l5 l6 x4 hP hD hS x5 l7 hfs (Nat.le_trans hc4.1 x7.1) (Nat.le_trans hc4.2 x7.2) hdg (fun q H1 hP1 hD1 hS1 => ?_)
        refine hk _ H1 locs ls _ (mk_new1 o1 o2 o3 ⟨_, rfl, by simp, hlen, ck_two_get (by simp [hlen]) (fun j a b ha hb => ?_)⟩) (hle.tr mk_le.app) hP1 hD1 hS1
        have hj : j < y.2.2.1 := by rw [← hlen]; exact (List.getElem?_eq_some_iff.mp ha).1
        obtain ⟨v, v1, v2⟩ := l8 j hj
        have ev : v = a := Option.some.inj (v1.symm.trans ha)
        have hb' : ((List.range y.2.2.1).map fun j => defaultValue (ty j))[j]? = some (defaultValue (ty j)) := by simp [hj]
        have eb : defaultValue (ty j) = b := Option.some.inj (hb'.symm.trans hb)
        subst ev
        subst eb
        exact v2.mv (fun i a e hi => by simp at hi)
      · cases h
    · cases h
  · cases h
theorem mk_get_ok (X : mk_cx p e R s m args meth c cc own D V tys T A) (hfl : ∀ y ∈ mfl0 T, ck_hg s args own V.1 y) {idx : Nat} (h : mk_get T S (pc + 3) idx = some x) (hk : mk_g p l e R s m args below meth c Q D V.1 tys (mnL0 T) A ws0 x.1 x.2) (hdg : decode cc pc = .ok (.getfield idx, 3)) : mk_g p l e R s m args below meth c Q D V.1 tys (mnL0 T) A ws0 S pc := by
  obtain ⟨x1, x2, x3, x4, x5, x6, x7, x8, x9, x10, x11, x12⟩ := X
  unfold mk_get at h
  split at h
  · rename_i r st hst
    split at h
    · rename_i hr
      split at h
      · rename_i c0 hc0
        split at h
        · rename_i h0
          split at h
          · rename_i y hy
            split at h
            · rename_i v hv
              cases h
              have hp := List.find?_some hy
              rw [Bool.and_eq_true, beq_iff_eq, beq_iff_eq] at hp
              obtain ⟨C, T0, N0, ref, Ts, l1, l2, l3, l4, l5, l6⟩ := hfl y (List.mem_of_find?_eq_some hy)
              intro ws H locs ls vs o hle hP hD hS
              obtain ⟨o1, o2, o3⟩ := o
              rw [hst] at o2
              cases vs with
              | nil => exact o2.elim
              | cons v1 vs =>
                obtain ⟨a, e1, h1, rfl⟩ := o2.1.r hr
                have hco := o3.2 _ _ _ _ h1 hc0
                unfold mk_co at hco
                rw [h0] at hco
                obtain ⟨fs, rfl, f1, f2, f3⟩ := hco
                obtain ⟨u, u1, u2⟩ := ck_two_at f3 _ _ hv
                rw [← hp.2] at h1
                rw [hp.1] at l5
                have kk := hk ws H locs ls (u :: vs) ⟨o1, ⟨u2, o2.2⟩, o3⟩ hle hP hD hS
                rcases l5 with l5 | ⟨host, l5⟩
                · exact va_get x1 x2 l1 l2 x3 x4 hP r.2.2 h1 l3 y.2.2 l4 l5 l6 u1 hdg kk
                · exact va_getN x1 x2 l1 l2 x3 x4 hP r.2.2 h1 l3 y.2.2 l4 l5 l6 u1 hdg kk
            · cases h
          · cases h
        · cases h
      · cases h
    · cases h
  · cases h
theorem mk_put_ok (X : mk_cx p e R s m args meth c cc own D V tys T A) (hpl : ∀ y ∈ mpl0 T, ck_hp s args own V.1 (meth.name = "<init>") y) {idx : Nat} (h : mk_put T S (pc + 3) idx = some x) (hk : mk_g p l e R s m args below meth c Q D V.1 tys (mnL0 T) A ws0 x.1 x.2) (hdg : decode cc pc = .ok (.putfield idx, 3)) : mk_g p l e R s m args below meth c Q D V.1 tys (mnL0 T) A ws0 S pc := by
  obtain ⟨x1, x2, x3, x4, x5, x6, x7, x8, x9, x10, x11, x12⟩ := X
  unfold mk_put at h
  split at h
  · rename_i v r st hst
    split at h
    · rename_i hr
      split at h
      · rename_i c0 hc0
        split at h
        · rename_i h0
          split at h
          · rename_i y hy
            split at h
            · rename_i hv
              obtain ⟨hv, hlt⟩ := hv
              cases h
              have hp := List.find?_some hy
              rw [Bool.and_eq_true, beq_iff_eq, beq_iff_eq] at hp
              obtain ⟨C, T0, N0, ref, Ts, ty0, l1, l2, l3, l4, l5, l6, l7, l8, l9⟩ := hpl y (List.mem_of_find?_eq_some hy)
              rw [hp.1] at l7
              intro ws H locs ls vs o hle hP hD hS
              obtain ⟨o1, o2, o3⟩ := o
              rw [hst] at o2
              cases vs with
              | nil => exact o2.elim
              | cons u vs =>
                cases vs with
                | nil => exact o2.2.elim
                | cons v1 vs =>
                  obtain ⟨a, e1, h1, rfl⟩ := o2.2.1.r hr
                  have hco := o3.2 _ _ _ _ h1 hc0
                  unfold mk_co at hco
                  rw [h0] at hco
                  obtain ⟨fs, rfl, f1, f2, f3⟩ := hco
                  have hu := o2.1
                  unfold mk_pok at hv
                  have hnf : narrow (ty0 y.2.2.1) u = u ∧ fits (ty0 y.2.2.1) u = true := by
                    split at l9
                    · rename_i eb
                      rw [eb] at hv
                      obtain ⟨w, rfl, -⟩ := hu.i (eq_of_beq hv)
                      rw [l9]
                      exact ⟨rfl, rfl⟩
                    · rename_i eb
                      rw [eb] at hv
                      simp only [Bool.and_eq_true, beq_iff_eq, decide_eq_true_eq] at hv
                      obtain ⟨w, rfl, ew⟩ := hu.i hv.1
                      rw [l9]
                      exact ck_nar_b (by omega) (by omega)
                    · have hne : v.1 ≠ 1 := by
                        revert hv
                        split
                        · rename_i z1 z2; exact absurd z2 (by assumption)
                        · rename_i z1 z2; exact absurd z2 (by assumption)
                        · intro hv
                          rw [Bool.not_eq_true', beq_eq_false_iff_ne] at hv
                          exact hv
                      rcases l9 with ⟨C', l9⟩ | ⟨t', l9⟩ <;> rw [l9] <;> rcases hu.ni hne with rfl | ⟨b, rfl⟩ <;> exact ⟨rfl, rfl⟩
                  have hco' : mk_co tys ws (0, c0.2.1, c0.2.2.1, c0.2.2.2.set y.2.2.1 v) (.inr (c0.2.1, fs.set y.2.2.1 u)) := ⟨_, rfl, by rw [List.length_set]; exact f1, by rw [List.length_set]; exact f2, ck_two_set hu _ f3⟩
                  have hle2 : mk_le ws (ws.set r.2.2 (a, .inr (c0.2.1, fs.set y.2.2.1 u))) := mk_le.set h1
                  have go : ∀ (H1 : Heap) (locs1 : List Loc), va_P D V.1 (ws.set r.2.2 (a, .inr (c0.2.1, fs.set y.2.2.1 u))) H1 → va_D A (ws.set r.2.2 (a, .inr (c0.2.1, fs.set y.2.2.1 u))) → va_S A s.heap H1 locs1 → W p l e R s m args below meth c H1 locs1 S.2.2.2.1 S.2.2.2.2 Q (F0 m (pc + 3) ls vs) := by
                    intro H1 locs1 hP1 hD1 hS1
                    obtain ⟨lv, l1, l2⟩ := o1
                    exact hk _ H1 locs1 ls vs ⟨⟨lv, l1, l2.imp fun _ _ z => ⟨z.1, z.2.mv hle2⟩⟩, o2.2.2.imp fun _ _ z => z.mv hle2, o3.set h1 hco'⟩ (hle.tr hle2) hP1 hD1 hS1
                  have hl5 : V.1[c0.2.1]? = some (C, T0, N0) := by rw [← hp.2]; exact l5
                  have hlen : y.2.2.1 < fs.length := by rw [f1]; exact hlt
                  rcases l7 with ⟨lk, lf | ⟨lf, li, lo⟩⟩ | ⟨lf, host, lk⟩
                  · exact va_put x1 x2 l1 l2 ty0 l3 l4 x3 x4 hP hD hS r.2.2 h1 hl5 y.2.2.1 l6 lk l8 lf (l3 _ l6) hnf.1 hnf.2 hlen hdg go
                  · exact va_putF x1 x2 l1 l2 ty0 l3 l4 x3 x4 hP hD hS r.2.2 h1 hl5 y.2.2.1 l6 lk l8 lf li lo (l3 _ l6) hnf.1 hnf.2 hlen hdg go
                  · exact va_putN x1 x2 l1 l2 ty0 l3 l4 x3 x4 hP hD hS r.2.2 h1 hl5 y.2.2.1 l6 lk l8 lf (l3 _ l6) hnf.1 hnf.2 hlen hdg go
            · cases h
          · cases h
        · cases h
      · cases h
    · cases h
  · cases h
theorem mk_vin {w : Int32} {z : Int} {n : Nat} (ew : w.toInt = z) (h0 : 0 ≤ z) (hn : z.toNat < n) : vp_in w n ∧ w.toNatClampNeg = z.toNat := by
  have hc : w.toNatClampNeg = z.toNat := by show w.toInt.toNat = _; rw [ew]
  refine ⟨fun q => ?_, hc⟩
  rcases q with q | q
  · have := Int32.lt_iff_toInt_lt.mp q
    rw [Int32.toInt_zero] at this
    omega
  · omega
theorem mk_iast_ok (X : mk_cx p e R s m args meth c cc own D V tys T A) (h : mk_iast S (pc + 1) = some x) (hk : mk_g p l e R s m args below meth c Q D V.1 tys (mnL0 T) A ws0 x.1 x.2) (hdg : decode cc pc = .ok (.iastore, 1)) : mk_g p l e R s m args below meth c Q D V.1 tys (mnL0 T) A ws0 S pc := by
  obtain ⟨x1, x2, x3, x4, x5, x6, x7, x8, x9, x10, x11, x12⟩ := X
  unfold mk_iast at h
  split at h
  · rename_i v i r st hst
    split at h
    · rename_i hc
      obtain ⟨c1, c2, c3, c4⟩ := hc
      split at h
      · rename_i c0 hc0
        split at h
        · rename_i h0
          cases h
          intro ws H locs ls vs o hle hP hD hS
          obtain ⟨o1, o2, o3⟩ := o
          rw [hst] at o2
          cases vs with
          | nil => exact o2.elim
          | cons u1 vs =>
            cases vs with
            | nil => exact o2.2.elim
            | cons u2 vs =>
              cases vs with
              | nil => exact o2.2.2.elim
              | cons u3 vs =>
                obtain ⟨w1, rfl, e1⟩ := o2.1.i c1
                obtain ⟨w2, rfl, e2⟩ := o2.2.1.i c2
                obtain ⟨a, e3, h1, rfl⟩ := o2.2.2.1.r c3
                have hco := o3.2 _ _ _ _ h1 hc0
                unfold mk_co at hco
                rw [h0.1] at hco
                obtain ⟨cA, f, f1, rfl, f3⟩ := hco
                obtain ⟨hin, hcl⟩ := mk_vin e2 c4 h0.2
                refine va_iast x1 x2 x4 hP hD hS r.2.2 c0.2.1 h1 f1 hin hdg (fun H1 locs1 hP1 hD1 hS1 => ?_)
                have hle2 : mk_le ws (ws.set r.2.2 (a, .inl (cA, c0.2.2.1, .inl (upd f w2.toNatClampNeg w1)))) := mk_le.set h1
                have hco' : mk_co tys ws (mk_up c0 i.2.1.toNat v) (.inl (cA, c0.2.2.1, .inl (upd f w2.toNatClampNeg w1))) := by
                  unfold mk_co
                  rw [show (mk_up c0 i.2.1.toNat v).1 = 1 from h0.1]
                  refine ⟨cA, _, f1, rfl, fun j => ?_⟩
                  rw [mk_up_at]
                  unfold upd
                  rw [hcl]
                  by_cases ej : j = i.2.1.toNat
                  · rw [if_pos ej, if_pos ej]
                    exact o2.1
                  · rw [if_neg ej, if_neg ej]
                    exact f3 j
                obtain ⟨lv, l1, l2⟩ := o1
                exact hk _ H1 locs1 ls vs ⟨⟨lv, l1, l2.imp fun _ _ z => ⟨z.1, z.2.mv hle2⟩⟩, o2.2.2.2.imp fun _ _ z => z.mv hle2, o3.set h1 hco'⟩ (hle.tr hle2) hP1 hD1 hS1
        · cases h
      · cases h
    · cases h
  · cases h
theorem mk_aast_ok (X : mk_cx p e R s m args meth c cc own D V tys T A) (hal : ∀ y ∈ mal0 T, mk_hs tys V.1 y) (h : mk_aast T S (pc + 1) = some x) (hk : mk_g p l e R s m args below meth c Q D V.1 tys (mnL0 T) A ws0 x.1 x.2) (hdg : decode cc pc = .ok (.aastore, 1)) : mk_g p l e R s m args below meth c Q D V.1 tys (mnL0 T) A ws0 S pc := by
  obtain ⟨x1, x2, x3, x4, x5, x6, x7, x8, x9, x10, x11, x12⟩ := X
  unfold mk_aast at h
  split at h
  · rename_i v i r st hst
    split at h
    · rename_i hc
      obtain ⟨c1, c2, c3, c4⟩ := hc
      split at h
      · rename_i c0 b0 hc0 hb0
        split at h
        · rename_i h0
          obtain ⟨h01, h02, h03, h04⟩ := h0
          cases h
          obtain ⟨cB, rr, g1, g2⟩ := hal _ (List.contains_iff_mem.mp h04)
          intro ws H locs ls vs o hle hP hD hS
          obtain ⟨o1, o2, o3⟩ := o
          rw [hst] at o2
          cases vs with
          | nil => exact o2.elim
          | cons u1 vs =>
            cases vs with
            | nil => exact o2.2.elim
            | cons u2 vs =>
              cases vs with
              | nil => exact o2.2.2.elim
              | cons u3 vs =>
                obtain ⟨b, e1, k1, rfl⟩ := o2.1.r c1
                obtain ⟨w2, rfl, e2⟩ := o2.2.1.i c2
                obtain ⟨a, e3, h1, rfl⟩ := o2.2.2.1.r c3
                have hco := o3.2 _ _ _ _ h1 hc0
                unfold mk_co at hco
                rw [h01] at hco
                obtain ⟨cA, C, f, f1, rfl, f3⟩ := hco
                have hob := o3.2 _ _ _ _ k1 hb0
                unfold mk_co at hob
                rw [h02] at hob
                obtain ⟨fs, rfl, -⟩ := hob
                obtain ⟨hin, hcl⟩ := mk_vin e2 c4 h03
                have g1 : tys[c0.2.1]? = some (cB, .object rr.1) := g1
                cases Option.some.inj (f1.symm.trans g1)
                refine va_astq x1 x2 x4 hP hD hS r.2.2 c0.2.1 v.2.2 b0.2.1 h1 g1 k1 g2 hin hdg (fun H1 locs1 hP1 hD1 hS1 => ?_)
                have hle2 : mk_le ws (ws.set r.2.2 (a, .inl (cB, c0.2.2.1, .inr (.inr (.inr (.inr (va_up f w2.toNatClampNeg (some b)))))))) := mk_le.set h1
                have hco' : mk_co tys ws (mk_up c0 i.2.1.toNat v) (.inl (cB, c0.2.2.1, .inr (.inr (.inr (.inr (va_up f w2.toNatClampNeg (some b))))))) := by
                  unfold mk_co
                  rw [show (mk_up c0 i.2.1.toNat v).1 = 3 from h01]
                  refine ⟨cB, rr.1, _, f1, rfl, fun j => ?_⟩
                  rw [mk_up_at]
                  unfold va_up
                  rw [hcl]
                  by_cases ej : j = i.2.1.toNat
                  · rw [if_pos ej, if_pos ej]
                    exact o2.1
                  · rw [if_neg ej, if_neg ej]
                    exact f3 j
                obtain ⟨lv, l1, l2⟩ := o1
                exact hk _ H1 locs1 ls vs ⟨⟨lv, l1, l2.imp fun _ _ z => ⟨z.1, z.2.mv hle2⟩⟩, o2.2.2.2.imp fun _ _ z => z.mv hle2, o3.set h1 hco'⟩ (hle.tr hle2) hP1 hD1 hS1
        · cases h
      · cases h
    · cases h
  · cases h
def mk_cs (p : Program) (l : Launch) (e : Env) (R : Room) (s : State) (m : MethodId) (args : Array Value) (below : List Frame) (meth : Method) (c : Code) (Q : State → Prop) (cc : ByteArray) (D : va_G) (cl : List vw_C) (tys : List (ClassId × FieldType)) (T : mk_T) (A : Nat → Prop) (y : Nat × Nat × mk_F × Nat × Nat) : Prop :=
  ∀ (pc : Nat) (ls : Array Slot) (ws : va_W) (W0 : mk_W) (H : Heap) (locs : List Loc) (cells slots : Nat) (As rest : List Value) (xs : List mk_V) (r : List mk_V × mk_W), decode cc pc = .ok (ck_ik y.1, 3) → ls.size = mnL0 T → As.length = y.2.1 → ck_two (mk_vo ws) xs As → mk_wo tys ws W0 → va_P D cl ws H → va_D A ws → va_S A s.heap H locs → cells + y.2.2.2.1 ≤ R.cells → slots + y.2.2.2.2 ≤ R.slots → (rest.map fun v => v.category).sum ≤ 8 → mk_hd y.1 xs = true → y.2.2.1 W0 xs = some r →
    (∀ (rv : List Value) (ws' : va_W) (H' : Heap) (locs' : List Loc), mk_wo tys ws' r.2 → mk_le ws ws' → va_P D cl ws' H' → va_D A ws' → va_S A s.heap H' locs' → ck_two (mk_vo ws') r.1 rv → W p l e R s m args below meth c H' locs' (cells + y.2.2.2.1) (slots + y.2.2.2.2) Q (F0 m (pc + 3) ls (rv ++ rest))) →
    W p l e R s m args below meth c H locs cells slots Q (F0 m pc ls (As.reverse ++ rest))
theorem mk_two_cat {ws : va_W} : ∀ {l : List mk_V} {r : List Value}, ck_two (mk_vo ws) l r → (r.map fun v => v.category).sum = l.length
  | [], [], _ => rfl
  | _ :: _, v :: r, h => by
    rw [List.map_cons, List.sum_cons, mk_two_cat h.2, h.1.cat, List.length_cons]
    omega
  | [], _ :: _, h => h.elim
  | _ :: _, [], h => h.elim
theorem mk_call_ok (hcl : ∀ y ∈ mcl0 T, mk_cs p l e R s m args below meth c Q cc D V.1 tys T A y) (X : mk_cx p e R s m args meth c cc own D V tys T A) {key : Nat} (h : mk_call T S (pc + 3) key = some x) (hk : mk_g p l e R s m args below meth c Q D V.1 tys (mnL0 T) A ws0 x.1 x.2) (hdg : decode cc pc = .ok (ck_ik key, 3)) : mk_g p l e R s m args below meth c Q D V.1 tys (mnL0 T) A ws0 S pc := by
  unfold mk_call at h
  split at h
  · rename_i y hy
    split at h
    · rename_i hc
      obtain ⟨c1, c2, c3, c4, c5⟩ := hc
      split at h
      · rename_i r hr
        cases h
        have ek : y.1 = key := mk_fe hy
        have hcs := hcl y (List.mem_of_find?_eq_some hy)
        intro ws H locs ls vs o hle hP hD hS
        obtain ⟨⟨lv, l1, l2⟩, o2, o3⟩ := o
        obtain ⟨t1, t2⟩ := ck_two_take y.2.1 o2
        have hvl : vs.length = S.2.1.length := o2.len.symm
        have hsum := mk_two_cat t2
        have e1 : vs = (vs.take y.2.1).reverse.reverse ++ vs.drop y.2.1 := by rw [List.reverse_reverse, List.take_append_drop]
        rw [e1]
        refine hcs pc ls ws S.2.2.1 H locs _ _ (vs.take y.2.1).reverse (vs.drop y.2.1) _ r (by rw [ek]; exact hdg) l1.1 ?_ (ck_two_rev t1) o3 hP hD hS (Nat.le_trans c3 X.2.2.2.2.2.2.1.1) (Nat.le_trans c4 X.2.2.2.2.2.2.1.2) ?_ (by rw [ek]; exact c5) hr (fun rv ws' H' locs' hw' hle' hP' hD' hS' hrv => ?_)
        · rw [List.length_reverse, List.length_take]
          omega
        · rw [hsum, List.length_drop]
          omega
        · exact hk ws' H' locs' ls _ ⟨⟨lv, l1, l2.imp fun _ _ z => ⟨z.1, z.2.mv hle'⟩⟩, hrv.app (t2.imp fun _ _ z => z.mv hle'), hw'⟩ (hle.tr hle') hP' hD' hS'
      · cases h
    · cases h
  · cases h
end
end
noncomputable section
/-! the makers: the run, contracts, calls -/
def mk_hm (s : State) (args : Array Value) (own : String) (tys : List (ClassId × FieldType)) (y : Nat × Nat) : Prop := (∃ cA, tys[y.2]? = some (cA, .array .int)) ∧ (Cond.classLink own y.1 "[[I").before args s = true
def mk_fx (s : State) (args : Array Value) (own : String) (V : ck_Wd) (tys : List (ClassId × FieldType)) (T : mk_T) (meth : Method) : Prop :=
  (∀ y ∈ mfl0 T, ck_hg s args own V.1 y) ∧ (∀ y ∈ mpl0 T, ck_hp s args own V.1 (meth.name = "<init>") y) ∧ (∀ y ∈ mnw0 T, mk_hn s args own V.1 y) ∧ (∀ y ∈ man0 T, mk_ha s args own tys y) ∧ (∀ y ∈ mmn0 T, mk_hm s args own tys y) ∧ (∀ y ∈ mkl0 T, ck_hk s args own y) ∧ (∀ y ∈ mal0 T, mk_hs tys V.1 y)
section
variable {p : Program} {l : Launch} {e : Env} {R : Room} {s : State} {m : MethodId} {args : Array Value} {below : List Frame} {meth : Method} {c : Code} {Q : State → Prop} {cc : ByteArray} {own : String} {D : va_G} {V : ck_Wd} {tys : List (ClassId × FieldType)} {T : mk_T} {A : Nat → Prop} {ws0 : va_W} {S : mk_S} {x : mk_S × Nat} {pc pc' : Nat}
theorem mk_mnr_ok (X : mk_cx p e R s m args meth c cc own D V tys T A) (B : mk_bs V) (hmn : ∀ y ∈ mmn0 T, mk_hm s args own tys y) {idx : Nat} (h : mk_mnr T S (pc + 4) idx = some x) (hk : mk_g p l e R s m args below meth c Q D V.1 tys (mnL0 T) A ws0 x.1 x.2) (hdg : decode cc pc = .ok (.multianewarray idx 2, 4)) : mk_g p l e R s m args below meth c Q D V.1 tys (mnL0 T) A ws0 S pc := by
  obtain ⟨x1, x2, x3, x4, x5, x6, x7, x8, x9, x10, x11, x12⟩ := X
  unfold mk_mnr at h
  split at h
  · rename_i k n st y hst hy
    split at h
    · rename_i hc
      obtain ⟨c1, c2, c3, c4, c5, c6⟩ := hc
      unfold mk_al at h
      split at h
      · rename_i hc4
        cases h
        obtain ⟨⟨c5', g1⟩, g2⟩ := hmn y (List.mem_of_find?_eq_some hy)
        rw [mk_fe hy] at g2
        obtain ⟨c0', g0⟩ := mk_tyk x10 B.2.1
        intro ws H locs ls vs o hle hP hD hS
        obtain ⟨⟨lv, l1, l2⟩, o2, o3⟩ := o
        rw [hst] at o2
        cases vs with
        | nil => exact o2.elim
        | cons v1 vs =>
          cases vs with
          | nil => exact o2.2.elim
          | cons v2 vs =>
            obtain ⟨w1, rfl, e1⟩ := o2.1.i c1
            obtain ⟨w2, rfl, e2⟩ := o2.2.1.i c2
            have hneg : ∀ (w : Int32) (z : Int), w.toInt = z → 0 ≤ z → ¬ w < 0 := fun w z ew h0 q => by
              have := Int32.lt_iff_toInt_lt.mp q
              rw [Int32.toInt_zero] at this
              omega
            refine mz_row x1 x2 x3 g2 x12.2.2.2.2 (x9 _ B.1.1) x4 hP hD hS x5 g1 g0 (N := n.2.1.toNat) (K := k.2.1.toNat) (hneg _ _ e2 c4) (hneg _ _ e1 c3) (by show w2.toInt.toNat = _; rw [e2]) (by show w1.toInt.toNat = _; rw [e1]) (by omega) (by omega) (Nat.le_trans hc4.1 x7.1) (Nat.le_trans hc4.2 x7.2) hdg (fun q H1 locs1 hP1 hD1 hS1 => ?_)
            have hle2 : mk_le ws (ws ++ (q, .inl (c5', n.2.1.toNat, .inr (.inr (.inr (.inr (mz_f q n.2.1.toNat)))))) :: (List.range n.2.1.toNat).map (fun i => (q + 1 + i, .inl (c0', k.2.1.toNat, .inl (fun _ => 0))))) := mk_le.app
            have hl0 := o3.1
            have hq : (ws ++ (q, .inl (c5', n.2.1.toNat, .inr (.inr (.inr (.inr (mz_f q n.2.1.toNat)))))) :: (List.range n.2.1.toNat).map (fun i => (q + 1 + i, .inl (c0', k.2.1.toNat, .inl (fun _ => 0)))) : va_W)[S.2.2.1.length]? = some (q, .inl (c5', n.2.1.toNat, .inr (.inr (.inr (.inr (mz_f q n.2.1.toNat)))))) := by
              rw [← hl0, List.getElem?_append_right (Nat.le_refl _), Nat.sub_self]
              rfl
            have hqi : ∀ i, i < n.2.1.toNat → (ws ++ (q, .inl (c5', n.2.1.toNat, .inr (.inr (.inr (.inr (mz_f q n.2.1.toNat)))))) :: (List.range n.2.1.toNat).map (fun i => (q + 1 + i, .inl (c0', k.2.1.toNat, .inl (fun _ => 0)))) : va_W)[S.2.2.1.length + 1 + i]? = some (q + 1 + i, .inl (c0', k.2.1.toNat, .inl (fun _ => 0))) := fun i hi => by
              rw [← hl0, List.getElem?_append_right (by omega), show ws.length + 1 + i - ws.length = i + 1 by omega, List.getElem?_cons_succ]
              simp [hi]
            refine hk _ H1 locs1 ls _ ⟨⟨lv, l1, l2.imp fun _ _ z => ⟨z.1, z.2.mv hle2⟩⟩, ⟨⟨q, _, hq, rfl⟩, o2.2.2.imp fun _ _ z => z.mv hle2⟩, ?_⟩ (hle.tr hle2) hP1 hD1 hS1
            refine ⟨by simp [hl0], fun i b u d hi hd => ?_⟩
            dsimp only at hd
            rcases Nat.lt_trichotomy i ws.length with hlt | heq | hgt
            · rw [List.getElem?_append_left hlt] at hi
              rw [List.getElem?_append_left (by rw [← hl0]; exact hlt)] at hd
              exact (o3.2 i b u d hi hd).mv hle2
            · rw [heq, hl0, hq] at hi
              rw [heq, hl0, List.getElem?_append_right (Nat.le_refl _), Nat.sub_self, List.getElem?_cons_zero] at hd
              cases hi
              cases hd
              refine ⟨c5', _, g1, rfl, fun j hj => ?_⟩
              have hj' : j < n.2.1.toNat := hj
              have e5 : mk_at (5, y.2, n.2.1.toNat, (List.range n.2.1.toNat).map (fun i => ((2, 0, S.2.2.1.length + 1 + i) : mk_V))) j = (2, 0, S.2.2.1.length + 1 + j) := by
                unfold mk_at
                rw [List.getD_eq_getElem?_getD]
                simp [hj']
              rw [e5]
              refine ⟨_, _, hqi j hj', ?_⟩
              unfold mz_f
              rw [if_pos hj']
              rfl
            · obtain ⟨t, rfl⟩ : ∃ t, i = ws.length + 1 + t := ⟨i - (ws.length + 1), by omega⟩
              have ht : t < n.2.1.toNat := by
                have := (List.getElem?_eq_some_iff.mp hi).1
                simp at this
                omega
              rw [hl0, hqi t ht] at hi
              rw [hl0, List.getElem?_append_right (by omega), show S.2.2.1.length + 1 + t - S.2.2.1.length = t + 1 by omega, List.getElem?_cons_succ, List.getElem?_replicate, if_pos ht] at hd
              cases hi
              cases hd
              exact ⟨c0', _, g0, rfl, fun j => mk_vo.int rfl⟩
      · cases h
    · cases h
  · cases h
theorem mk_st_ok (X : mk_cx p e R s m args meth c cc own D V tys T A) (B : mk_bs V) (F : mk_fx s args own V tys T meth) (hcl : ∀ y ∈ mcl0 T, mk_cs p l e R s m args below meth c Q cc D V.1 tys T A y) {i : Instr} {n : Nat} (h : mk_st T S pc i n = some x) (hk : mk_g p l e R s m args below meth c Q D V.1 tys (mnL0 T) A ws0 x.1 x.2) (hdg : decode cc pc = .ok (i, n)) : mk_g p l e R s m args below meth c Q D V.1 tys (mnL0 T) A ws0 S pc := by
  have in32 : ∀ z : Int, mk_in32 z = true → -2147483648 ≤ z ∧ z ≤ 2147483647 := fun z hz => of_decide_eq_true hz
  have isi : ∀ v : mk_V, mk_isi v = true → v.1 = 1 := fun v hv => eq_of_beq hv
  have isr : ∀ v : mk_V, mk_isr v = true → v.1 ≠ 1 := fun v hv => by
    unfold mk_isr at hv
    rw [Bool.not_eq_true', beq_eq_false_iff_ne] at hv
    exact hv
  unfold mk_st at h
  split at h
  · split at h
    · rename_i hl; subst hl
      exact mk_cst_ok (w := Int32.ofInt _) h (fun q => Int32.toInt_ofInt_of_le (in32 _ q).1 (Int.lt_of_le_of_lt (in32 _ q).2 (by decide))) hk (fun H locs ls vs hW => lv_iconst X.1 X.2.1 hdg rfl hW)
    · cases h
  · split at h
    · rename_i hl; subst hl
      exact mk_cst_ok (w := (Int8.ofInt _).toInt32) h (fun q => by
        rw [decide_eq_true_eq] at q
        rw [Int8.toInt_toInt32]; exact Int8.toInt_ofInt_of_le q.1 (Int.lt_of_le_of_lt q.2 (by decide))) hk (fun H locs ls vs hW => lv_bipush X.1 X.2.1 hdg rfl hW)
    · cases h
  · split at h
    · rename_i hl; subst hl
      exact mk_cst_ok (w := (Int16.ofInt _).toInt32) h (fun q => by
        rw [decide_eq_true_eq] at q
        rw [Int16.toInt_toInt32]; exact Int16.toInt_ofInt_of_le q.1 (Int.lt_of_le_of_lt q.2 (by decide))) hk (fun H locs ls vs hW => lv_sipush X.1 X.2.1 hdg rfl hW)
    · cases h
  · split at h
    · rename_i hl; subst hl
      split at h
      · rename_i y hy
        have hp := List.find?_some hy
        rw [Bool.and_eq_true, beq_iff_eq, beq_iff_eq] at hp
        obtain ⟨v, v1, v2⟩ := (F.2.2.2.2.2.1 y (List.mem_of_find?_eq_some hy)).1 hp.2
        rw [hp.1] at v2
        exact mk_cst_ok (w := v) h (fun _ => v1) hk (fun H locs ls vs hW => lv_ldc X.1 X.2.1 X.2.2.1 v2 hdg hW)
      · cases h
    · cases h
  · split at h
    · rename_i hl; subst hl
      exact mk_ld_ok h hk (fun H locs ls vs v av ws hok hv hl hW => by
        obtain ⟨w, rfl, -⟩ := hv.i (isi _ hok)
        exact lv_iload_n X.1 X.2.1 hdg rfl hl hW)
    · cases h
  · split at h
    · rename_i hl; subst hl
      exact mk_ld_ok h hk (fun H locs ls vs v av ws hok hv hl hW => by
        obtain ⟨w, rfl, -⟩ := hv.i (isi _ hok)
        exact lv_iload X.1 X.2.1 hdg hl hW)
    · cases h
  · split at h
    · rename_i hl; subst hl
      exact mk_ld_ok h hk (fun H locs ls vs v av ws hok hv hl hW => by
        rcases hv.ni (isr _ hok) with rfl | ⟨a, rfl⟩
        · exact lv_aload_nN X.1 X.2.1 hdg rfl hl hW
        · exact lv_aload_n X.1 X.2.1 hdg rfl hl hW)
    · cases h
  · split at h
    · rename_i hl; subst hl
      exact mk_sto_ok h hk (fun H locs ls vs v av ws lv hok hv hl hi kk => by
        obtain ⟨w, rfl, -⟩ := hv.i (isi _ hok)
        exact lv_istore_n X.1 X.2.1 hdg rfl hl hi rfl kk)
    · cases h
  · split at h
    · rename_i hl; subst hl
      exact mk_sto_ok h hk (fun H locs ls vs v av ws lv hok hv hl hi kk => by
        obtain ⟨w, rfl, -⟩ := hv.i (isi _ hok)
        exact lv_istore X.1 X.2.1 hdg hl hi rfl kk)
    · cases h
  · split at h
    · rename_i hl; subst hl
      exact mk_sto_ok h hk (fun H locs ls vs v av ws lv hok hv hl hi kk => by
        rcases hv.ni (isr _ hok) with rfl | ⟨a, rfl⟩
        · exact lv_astore_nN X.1 X.2.1 hdg rfl hl hi rfl kk
        · exact lv_astore_n X.1 X.2.1 hdg rfl hl hi rfl kk)
    · cases h
  · split at h
    · rename_i hl; subst hl
      exact mk_inc_ok X h hk hdg
    · cases h
  · split at h
    · rename_i hl; subst hl
      exact mk_goto_ok X h hk hdg
    · cases h
  · split at h
    · rename_i hl; subst hl
      exact mk_icmp_ok X h hk hdg
    · cases h
  · split at h
    · rename_i hl; subst hl
      exact mk_shr_ok X h hk hdg
    · cases h
  · split at h
    · rename_i hl; subst hl
      exact mk_alen_ok X h hk hdg
    · cases h
  · split at h
    · rename_i hl; subst hl
      exact mk_dup_ok X h hk hdg
    · cases h
  · split at h
    · rename_i hl; subst hl
      exact mk_nar_ok X B h hk hdg
    · cases h
  · split at h
    · rename_i hl; subst hl
      exact mk_anr_ok X F.2.2.2.1 h hk hdg
    · cases h
  · split at h
    · rename_i hl
      obtain ⟨rfl, rfl⟩ := hl
      exact mk_mnr_ok X B F.2.2.2.2.1 h hk hdg
    · cases h
  · split at h
    · rename_i hl; subst hl
      exact mk_new_ok X F.2.2.1 h hk hdg
    · cases h
  · split at h
    · rename_i hl; subst hl
      exact mk_get_ok X F.1 h hk hdg
    · cases h
  · split at h
    · rename_i hl; subst hl
      exact mk_put_ok X F.2.1 h hk hdg
    · cases h
  · split at h
    · rename_i hl; subst hl
      exact mk_iast_ok X h hk hdg
    · cases h
  · split at h
    · rename_i hl; subst hl
      exact mk_aast_ok X F.2.2.2.2.2.2 h hk hdg
    · cases h
  · split at h
    · rename_i hl; subst hl
      exact mk_call_ok hcl X h hk (by rw [ck_ik1]; exact hdg)
    · cases h
  · split at h
    · rename_i hl; subst hl
      exact mk_call_ok hcl X h hk (by rw [ck_ik2]; exact hdg)
    · cases h
  · cases h
theorem mk_run_ok (X : mk_cx p e R s m args meth c cc own D V tys T A) (B : mk_bs V) (F : mk_fx s args own V tys T meth) (hcl : ∀ y ∈ mcl0 T, mk_cs p l e R s m args below meth c Q cc D V.1 tys T A y) {code : ck_cd} (hcode : ∀ y ∈ code, decode cc y.1 = .ok (y.2.1, y.2.2)) {rt : Nat} {r : List mk_V × mk_W}
    (hend : ∀ (S : mk_S) (pc : Nat) (i : Instr) (n : Nat), mk_ret T rt i n S = some r → decode cc pc = .ok (i, n) → mk_g p l e R s m args below meth c Q D V.1 tys (mnL0 T) A ws0 S pc) :
    ∀ (f : Nat) (S : mk_S) (pc : Nat), mk_run T rt code f S pc = some r → mk_g p l e R s m args below meth c Q D V.1 tys (mnL0 T) A ws0 S pc
  | 0, _, _, h => by cases h
  | f + 1, S, pc, h => by
    rw [mk_run] at h
    split at h
    · cases h
    · rename_i y hy
      have hd := hcode y (List.mem_of_find?_eq_some hy)
      rw [mk_fe hy] at hd
      split at h
      · rename_i r' hr'
        cases h
        exact hend S pc _ _ hr' hd
      · split at h
        · rename_i z hz
          exact mk_st_ok X B F hcl hz (mk_run_ok X B F hcl hcode hend f z.1 z.2 h) hd
        · cases h
end
def mk_sta (V : ck_Wd) (D : va_G) (tys : List (ClassId × FieldType)) (ws : va_W) (sz : Nat) (U : State) : Prop := ck_st V D tys ws sz none U ∧ mk_ao U
def mk_qp (V : ck_Wd) (D : va_G) (tys : List (ClassId × FieldType)) (ws : va_W) (sz : Nat) (r : List mk_V × mk_W) : Array Value → State → Outcome → State → Prop := fun _ st oc t =>
  (∃ (rv : Option Value) (ws' : va_W), oc = .returned rv ∧ mk_wo tys ws' r.2 ∧ mk_le ws ws' ∧ va_P D V.1 ws' t.heap ∧ va_D (va_A ws sz) ws' ∧ ck_two (mk_vo ws') r.1 rv.toList) ∧ va_F (va_A ws sz) st t
def mk_met (V : ck_Wd) (l : Launch) (y : MethodName) (cc : ByteArray) (nL : Nat) (ret : Option FieldType) (rm : Room) (f : mk_F) : Prop :=
  ∀ (D : va_G) (tys : List (ClassId × FieldType)) (ws : va_W) (sz : Nat) (As : List Value) (W : mk_W) (xs : List mk_V) (r : List mk_V × mk_W), tys.map Prod.snd = V.2.2.2.1 → mk_wo tys ws W → ck_two (mk_vo ws) xs As → f W xs = some r →
    Met l y (.code y cc nL ret :: V.2.2.2.2.1) rm (va_Pc As (mk_sta V D tys ws sz)) (mk_qp V D tys ws sz r) rm.cells rm.slots (va_A ws sz)
theorem mk_sta_blind {V : ck_Wd} {D : va_G} {tys : List (ClassId × FieldType)} {ws : va_W} {sz : Nat} {As : List Value} : FrameBlind (va_Pc As (mk_sta V D tys ws sz)) := by
  intro a U g mk h
  obtain ⟨h1, h2⟩ := ck_st_blind (sw := none) (As := As) a U g mk ⟨h.1, h.2.1⟩
  exact ⟨h1, h2, h.2.2.moved (Vm.Alike.refl U.vm)⟩
theorem mk_sl {ws : va_W} : ∀ {xs : List mk_V} {As : List Value}, ck_two (mk_vo ws) xs As → (lg_sl As).length = xs.length
  | [], [], _ => rfl
  | _ :: xs, a :: As, h => by
    have hc := h.1.cat
    have ih := mk_sl h.2
    have key : (lg_sl (a :: As)).length = 1 + (lg_sl As).length := by simp [lg_sl, hc]; omega
    rw [key, ih, List.length_cons]
    omega
  | [], _ :: _, h => h.elim
  | _ :: _, [], h => h.elim
theorem mk_two_args {ws : va_W} : ∀ {xs : List mk_V} {As : List Value} (i : Nat), ck_two (mk_vo ws) xs As → ck_two (fun (x : Nat × mk_V) (y : Nat × Value) => x.1 = y.1 ∧ mk_vo ws x.2 y.2) (mk_ar i xs) (lv_args i As)
  | [], [], _, _ => trivial
  | v :: vs, x :: xs, i, h => by
    have e : (if x.category = 2 then i + 2 else i + 1) = i + 1 := by rw [h.1.cat, if_neg (by decide)]
    refine ⟨⟨rfl, h.1⟩, ?_⟩
    show ck_two _ (mk_ar (i + 1) vs) (lv_args (if x.category = 2 then i + 2 else i + 1) xs)
    rw [e]
    exact mk_two_args _ h.2
  | [], _ :: _, _, h => h.elim
  | _ :: _, [], _, h => h.elim
def mk_tb (V : ck_Wd) (own : String) (init : Bool) (T : mk_T) : Prop := ∀ (s : State) (args : Array Value) (tys : List (ClassId × FieldType)) (meth : Method), (∀ w ∈ V.2.2.2.2.1, w.before args s = true) → tys.map Prod.snd = V.2.2.2.1 → ck_nq V s → mk_ao s → (init = true → meth.name = "<init>") → mk_fx s args own V tys T meth
def mk_ca (V : ck_Wd) (own : String) (cc : ByteArray) (rm : Room) (T : mk_T) : Prop := ∀ (p : Program) (l : Launch) (e : Env) (s : State) (m : MethodId) (args : Array Value) (below : List Frame) (meth : Method) (c : Code) (Q : State → Prop) (D : va_G) (tys : List (ClassId × FieldType)) (A : Nat → Prop),
  mk_cx p e rm s m args meth c cc own D V tys T A → ∀ y ∈ mcl0 T, mk_cs p l e rm s m args below meth c Q cc D V.1 tys T A y
theorem mk_meth {V : ck_Wd} {l : Launch} {y : MethodName} {own : String} {cc : ByteArray} {nL : Nat} {ret : Option FieldType} {rm : Room} {T : mk_T} {code : ck_cd} {rt f : Nat} (init : Bool) (hy : plainFor y = true) (ho : y.cls = own) (hinit : init = true → y.name = "<init>") (hT : mnL0 T = nL ∧ mRC0 T = rm.cells ∧ mRS0 T = rm.slots) (hrt : ck_rt rt ret)
    (hcode : ∀ x ∈ code, decode cc x.1 = .ok (x.2.1, x.2.2)) (B : mk_bs V) (htb : mk_tb V own init T) (hcl : mk_ca V own cc rm T) : mk_met V l y cc nL ret rm (mk_fn T rt code f) := by
  intro D tys ws sz As W0 xs r htl hwo hxs hf
  refine ck_ofW (cc := cc) (maxL := nL) (ret := ret) hy rfl ?_
  intro p e s m args below meth c s₁ Bd hml hv
  obtain ⟨rfl, ⟨hsz, hP, hK, hD0, hnc, -⟩, hao⟩ := hv
  have hx := Bd.exec
  have hb := Bd.bytes
  have hr := Bd.returns
  have hts0 := atoms_spec (ws := .code y cc nL ret :: V.2.2.2.2.1) Bd.pre
  have hts : ∀ w ∈ V.2.2.2.2.1, w.before As.toArray s = true := fun w hw => hts0 w (List.mem_cons_of_mem _ hw)
  have hown : s.vm.findClass own = some m.cls := by rw [← ho]; exact findClass_of_methodNamed Bd.named
  have hlocks := Bd.notSynchronized
  have hmn : meth.name = y.name := (name_of_methodNamed Bd.named Bd.method).1
  subst hsz
  have hD := hD0.self (sz := s.heap.size)
  have hA : ∀ q : Nat, s.heap.size ≤ q → va_A ws s.heap.size q := fun q h => Or.inr h
  have hS : va_S (va_A ws s.heap.size) s.heap s.heap [] := va_S.rf
  unfold mk_fn at hf
  split at hf
  · rename_i hlen
    have X : mk_cx p e rm s m As.toArray meth c cc own D V tys T (va_A ws s.heap.size) := ⟨hx, hb, hown, hK, hA, by rw [hT.1]; exact hml, by rw [hT.2.1, hT.2.2]; exact ⟨Nat.le_refl _, Nat.le_refl _⟩, hlocks, hts, htl, hnc, hao⟩
    have F := htb s As.toArray tys meth hts htl hnc hao (fun z => by rw [hmn]; exact hinit z)
    have hl := lv_entry As (n := nL) (by rw [mk_sl hxs, ← hT.1]; exact hlen)
    rw [lg_entry_eq]
    generalize (lg_sl As ++ List.replicate (nL - (lg_sl As).length) Slot.unset).toArray = ls at hl ⊢
    refine mk_run_ok (l := l) (below := below) (Q := MQ below (mk_qp V D tys ws s.heap.size r) As.toArray s rm.cells rm.slots (va_A ws s.heap.size)) X B F (hcl p l e s m As.toArray below meth c _ D tys _ X) hcode (ws0 := ws) (fun S pc i n hret hdg => ?_) f _ 0 hf ws s.heap [] ls [] ⟨⟨_, by rw [hT.1]; exact hl, mk_two_args 0 hxs⟩, trivial, hwo⟩ mk_le.rf hP hD hS
    unfold mk_ret at hret
    split at hret
    · rename_i hroom
      rw [hT.2.1, hT.2.2] at hroom
      intro ws' H locs ls vs o hle hP' hD' hS'
      obtain ⟨o1, o2, o3⟩ := o
      refine W.widen hroom.1 hroom.2 ?_
      have fin : ∀ (rv : Option Value) (t : State), rv.toList = vs → r = (S.2.1, S.2.2.1) → t.heap = H → mk_qp V D tys ws s.heap.size r As.toArray s (.returned rv) t := fun rv t hrv hr' ht => by
        subst hr'
        exact ⟨⟨rv, ws', rfl, o3, hle, by rw [ht]; exact hP', hD', by rw [hrv]; exact o2⟩, hS'.F ht⟩
      split at hret
      · split at hret
        · rename_i hc
          obtain ⟨c1, c2, c3⟩ := hc
          cases hret
          subst c2
          rw [c3] at o2
          cases vs with
          | cons _ _ => exact o2.elim
          | nil =>
            have hrt0 : ret = none := by rw [c1] at hrt; exact hrt
            exact W.vret hx hb (by rw [hr, hrt0]) (fun t ht hW => fin none t rfl (by rw [c3]) ht) hS'.2.2 hdg hlocks
        · cases hret
      · split at hret
        · rename_i hc
          obtain ⟨c1, c2, c3, c4⟩ := hc
          cases hret
          subst c2
          have hrt0 : ret = some .int := by rw [c1] at hrt; exact hrt
          have o2' := o2
          obtain ⟨v, hst⟩ := List.length_eq_one_iff.mp c3
          rw [hst] at o2' c4
          cases vs with
          | nil => exact o2'.elim
          | cons u vs =>
            cases vs with
            | cons _ _ => exact o2'.2.elim
            | nil =>
              have hv1 : v.1 = 1 := by
                have : mk_isi v = true := by simpa using c4
                exact eq_of_beq this
              obtain ⟨w, rfl, -⟩ := o2'.1.i hv1
              exact W.iret hx hb (by rw [hr, hrt0]) (fun t ht hW => fin (some (.int w)) t rfl rfl ht) hS'.2.2 hdg hlocks
        · cases hret
      · split at hret
        · rename_i hc
          obtain ⟨c1, c2, c3, c4⟩ := hc
          cases hret
          subst c2
          obtain ⟨t0, hrt0, ht0⟩ : ∃ t, ret = some t ∧ ((∃ n, t = .object n) ∨ ∃ u, t = .array u) := by rw [c1] at hrt; exact hrt
          have o2' := o2
          obtain ⟨v, hst⟩ := List.length_eq_one_iff.mp c3
          rw [hst] at o2' c4
          cases vs with
          | nil => exact o2'.elim
          | cons u vs =>
            cases vs with
            | cons _ _ => exact o2'.2.elim
            | nil =>
              have hv1 : v.1 ≠ 1 := by
                have : mk_isr v = true := by simpa using c4
                unfold mk_isr at this
                rw [Bool.not_eq_true', beq_eq_false_iff_ne] at this
                exact this
              exact W.aret hx hb (by rw [hr, hrt0]) ht0 (o2'.1.ni hv1) (fun t ht hW => fin (some u) t rfl rfl ht) hS'.2.2 hdg hlocks
        · cases hret
      · cases hret
    · cases hret
  · cases hf
end
noncomputable section
/-! the makers: a contract is the call's meaning -/
def mk_dv (t : FieldType) : Option mk_V := match t with
  | .int => some (1, 0, 0)
  | .boolean => some (1, 0, 0)
  | .object _ => some (0, 0, 0)
  | .array _ => some (0, 0, 0)
  | _ => none
theorem mk_dv_ok {ws : va_W} {t : FieldType} {v : mk_V} (h : mk_dv t = some v) : mk_vo ws v (defaultValue t) := by
  unfold mk_dv at h
  split at h <;> first | (cases h; first | exact mk_vo.int rfl | rfl) | cases h
theorem mk_dvs {N : Nat} {ty : Nat → FieldType} {ds : List mk_V} (h : (List.range N).map (fun j => mk_dv (ty j)) = ds.map some) : ∀ j, j < N → ∃ v, ds[j]? = some v ∧ mk_vo [] v (defaultValue (ty j)) := by
  intro j hj
  have h1 : ((List.range N).map (fun j => mk_dv (ty j)))[j]? = some (mk_dv (ty j)) := by simp [hj]
  rw [h, List.getElem?_map] at h1
  cases hd : ds[j]? with
  | none => rw [hd] at h1; cases h1
  | some v =>
    rw [hd] at h1
    exact ⟨v, rfl, mk_dv_ok (Option.some.inj h1).symm⟩
section
variable {p : Program} {l : Launch} {e : Env} {R : Room} {s : State} {m : MethodId} {args : Array Value} {below : List Frame} {meth : Method} {c : Code} {Q : State → Prop} {cc : ByteArray} {own : String} {D : va_G} {V : ck_Wd} {tys : List (ClassId × FieldType)} {T : mk_T} {A : Nat → Prop}
theorem mk_cs_gen {y : MethodName} {cc' : ByteArray} {nL' : Nat} {ret : Option FieldType} {rm : Room} {f : mk_F} {i na : Nat} (hmet : mk_met V l y cc' nL' ret rm f) (X : mk_cx p e R s m args meth c cc own D V tys T A)
    (hrun : ∀ (pc : Nat) (ls : Array Slot) (H : Heap) (locs : List Loc) (cells slots : Nat) (As rest : List Value) (Pc : Array Value → State → Prop) (Qc : Array Value → State → Outcome → State → Prop) (free : Addr → Prop), decode cc pc = .ok (ck_ik i, 3) → ls.size = mnL0 T → As.length = na → (i % 3 = 2 → ∃ (b : Nat) (As' : List Value), As = .ref b :: As') → (rest.map fun v => v.category).sum ≤ 8 → cells + rm.cells ≤ R.cells → slots + rm.slots ≤ R.slots →
      Met l y (.code y cc' nL' ret :: V.2.2.2.2.1) rm Pc Qc rm.cells rm.slots free → FrameBlind Pc → (∀ U : State, U.heap = H → s.WarmedH U.vm → Pc As.toArray U) → va_Run p l e R s m args below meth c H locs cells slots rm.cells rm.slots (F0 m pc ls (As.reverse ++ rest)) rest (Qc As.toArray) free) :
    mk_cs p l e R s m args below meth c Q cc D V.1 tys T A (i, na, f, rm.cells, rm.slots) := by
  intro pc ls ws W0 H locs cells slots As rest xs r hdg hls hlen hxs hwo hP hD hS hc hs hsum hhd hf hk
  obtain ⟨x1, x2, x3, x4, x5, x6, x7, x8, x9, x10, x11, x12⟩ := X
  have hA1 : ∀ q, va_A ws H.size q → A q := by
    rintro q (⟨k, e', h⟩ | h)
    · exact hD.2 k _ h
    · exact x5 q (Nat.le_trans hS.1 h)
  have hmet' := hmet D tys ws H.size As W0 xs r x10 hwo hxs hf
  have hpre : ∀ U : State, U.heap = H → s.WarmedH U.vm → va_Pc As (mk_sta V D tys ws H.size) As.toArray U := by
    intro U hU hW
    exact ⟨rfl, ⟨by rw [hU], by rw [hU]; exact hP, va_K.moved hW.alike x4, hD.weaken (fun _ _ _ _ => trivial), x11.warm hW, fun w hw => by cases hw⟩, x12.moved hW.alike⟩
  have run := hrun pc ls H locs cells slots As rest _ _ _ hdg hls hlen (fun hi => by
    unfold mk_hd at hhd
    have hi' : (i % 3 == 2) = true := by rw [hi]; rfl
    dsimp only at hhd
    rw [hi', Bool.not_true, Bool.false_or] at hhd
    cases xs with
    | nil => cases hhd
    | cons v xs =>
      cases As with
      | nil => exact hxs.elim
      | cons a As =>
        obtain ⟨b, e0, -, rfl⟩ := hxs.1.r (eq_of_beq hhd)
        exact ⟨b, As, rfl⟩) hsum hc hs hmet' mk_sta_blind hpre
  intro Tt hT Xs
  obtain ⟨v, st₀, u, T', L, h0, X', hL, e1, e2, ⟨⟨rv, ws', hrv, q1, q2, q3, q4, q5⟩, hz, hkF⟩, st⟩ := run Tt hT Xs
  cases hrv
  rw [h0] at hz hkF
  obtain ⟨t2, a1, b1⟩ := hk v.toList ws' T'.heap (locs ++ L) q1 q2 (by rw [e1]; exact q3) (q4.weaken fun k q _ h => hA1 q.1 h)
    ⟨Nat.le_trans hS.1 (by rw [e1]; exact hz), fun q h1 h2 => by rw [e1, hkF q (Nat.lt_of_lt_of_le h1 hS.1) (fun z => h2 (hA1 q z))]; exact hS.2.1 q h1 h2, fun q hq => by
      rcases List.mem_append.mp hq with h | h
      · exact hS.2.2 q h
      · exact hA1 _ (hL q h)⟩ q5 T' rfl X'
  exact ⟨t2, st t2 a1, b1⟩
theorem mk_cs_S {y : MethodName} {cc' : ByteArray} {nL' idx : Nat} {ret : Option FieldType} {rm : Room} {f : mk_F} {na : Nat} (hmet : mk_met V l y cc' nL' ret rm f) (X : mk_cx p e R s m args meth c cc own D V tys T A) (hg : ck_gd V.2.2.2.2.1) (hw : ∀ w ∈ ([.methodLink own idx y, .static y, .initialized y.cls, .code y cc' nL' ret] : List Cond), w ∈ V.2.2.2.2.1)
    (hd : y.cls ≠ "java/lang/invoke/MethodHandle" ∧ y.cls ≠ "java/lang/invoke/VarHandle" ∧ (parseMethodDescriptor y.desc).map (fun d => d.parameters.length) = some na) (hR : rm.frames + 1 ≤ R.frames ∧ 8 + (nL' + 11) + rm.locals ≤ R.locals) :
    mk_cs p l e R s m args below meth c Q cc D V.1 tys T A (3 * idx + 1, na, f, rm.cells, rm.slots) := by
  refine mk_cs_gen hmet X ?_
  intro pc ls H locs cells slots As rest Pc Qc free hdg hls hlen hrec hsum hc hs hMet hbl hpre
  rw [ck_ik1] at hdg
  have hts := X.2.2.2.2.2.2.2.2.1
  have hGi : GoodIn V.2.2.2.2.1 (va_wsS own idx y (.code y cc' nL' ret :: V.2.2.2.2.1)) := ck_good hg (fun w hww => by
    rcases List.mem_append.mp hww with q | q
    · simp only [List.mem_cons, List.not_mem_nil, or_false] at q
      rcases q with rfl | rfl | rfl <;> exact hw _ (by simp)
    · rcases List.mem_cons.mp q with rfl | q
      · exact hw _ (by simp)
      · exact q)
  exact va_runS (rest := rest) ⟨X.1, X.2.1, X.2.2.2.2.2.1, X.2.2.1, hts⟩ hMet (va_cwS na hts hGi rfl rfl rfl hd hR) ⟨hbl, hpre⟩ (g := F0 m pc ls (As.reverse ++ rest)) rfl hlen hls rfl (ck_lroom hsum) hdg ⟨hc, hs⟩
theorem mk_cs_SN {y : MethodName} {host : String} {cc' : ByteArray} {nL' idx : Nat} {ret : Option FieldType} {rm : Room} {f : mk_F} {na : Nat} (hmet : mk_met V l y cc' nL' ret rm f) (X : mk_cx p e R s m args meth c cc own D V tys T A) (hg : ck_gd V.2.2.2.2.1) (hl : Cond.methodLinkNest own idx y host ∈ V.2.2.2.2.2.2) (hw : ∀ w ∈ ([.static y, .initialized y.cls, .code y cc' nL' ret] : List Cond), w ∈ V.2.2.2.2.1)
    (hd : y.cls ≠ "java/lang/invoke/MethodHandle" ∧ y.cls ≠ "java/lang/invoke/VarHandle" ∧ (parseMethodDescriptor y.desc).map (fun d => d.parameters.length) = some na) (hR : rm.frames + 1 ≤ R.frames ∧ 8 + (nL' + 11) + rm.locals ≤ R.locals) :
    mk_cs p l e R s m args below meth c Q cc D V.1 tys T A (3 * idx + 1, na, f, rm.cells, rm.slots) := by
  refine mk_cs_gen hmet X ?_
  intro pc ls H locs cells slots As rest Pc Qc free hdg hls hlen hrec hsum hc hs hMet hbl hpre
  rw [ck_ik1] at hdg
  have hts := X.2.2.2.2.2.2.2.2.1
  have hnc := X.2.2.2.2.2.2.2.2.2.2.1
  have hGi : GoodIn V.2.2.2.2.1 (.code y cc' nL' ret :: V.2.2.2.2.1) := ck_good hg (fun w hww => by
    rcases List.mem_cons.mp hww with rfl | q
    · exact hw _ (by simp)
    · exact q)
  exact va_runSN (rest := rest) ⟨X.1, X.2.1, X.2.2.2.2.2.1, X.2.2.1, hts⟩ hMet ⟨va_cnB na hts hGi rfl rfl rfl (hnc.2 _ hl).2 (hts _ (hw _ (by simp))) hd hR, hts _ (hw _ (by simp)), trivial⟩ ⟨hbl, hpre⟩ (g := F0 m pc ls (As.reverse ++ rest)) rfl hlen hls rfl (ck_lroom hsum) hdg ⟨hc, hs⟩
theorem mk_cs_I {y : MethodName} {cc' : ByteArray} {nL' idx : Nat} {rm : Room} {f : mk_F} {n : Nat} (hmet : mk_met V l y cc' nL' none rm f) (X : mk_cx p e R s m args meth c cc own D V tys T A) (hg : ck_gd V.2.2.2.2.1) (hw : ∀ w ∈ ([.methodLink own idx y, .instanceMethod y, .initialized y.cls, .code y cc' nL' none] : List Cond), w ∈ V.2.2.2.2.1) (hy1 : y.name = "<init>")
    (hd : y.cls ≠ "java/lang/invoke/MethodHandle" ∧ y.cls ≠ "java/lang/invoke/VarHandle" ∧ (parseMethodDescriptor y.desc).map (fun d => d.parameters.length) = some n) (hR : rm.frames + 1 ≤ R.frames ∧ 8 + (nL' + 11) + rm.locals ≤ R.locals) :
    mk_cs p l e R s m args below meth c Q cc D V.1 tys T A (3 * idx + 2, n + 1, f, rm.cells, rm.slots) := by
  refine mk_cs_gen hmet X ?_
  intro pc ls H locs cells slots As rest Pc Qc free hdg hls hlen hrec hsum hc hs hMet hbl hpre
  rw [ck_ik2] at hdg
  have hts := X.2.2.2.2.2.2.2.2.1
  obtain ⟨b, As', rfl⟩ := hrec (by omega)
  have hGi : GoodIn V.2.2.2.2.1 (.code y cc' nL' none :: V.2.2.2.2.1) := ck_good hg (fun w hww => by
    rcases List.mem_cons.mp hww with rfl | q
    · exact hw _ (by simp)
    · exact q)
  exact va_runI (rest := rest) ⟨X.1, X.2.1, X.2.2.2.2.2.1, X.2.2.1, hts⟩ hMet (cwI n hts hGi rfl rfl rfl (hts _ (hw _ (by simp))) (hts _ (hw _ (by simp))) (hts _ (hw _ (by simp))) hy1 hd hR) ⟨hbl, hpre⟩ (g := F0 m pc ls ((Value.ref b :: As').reverse ++ rest)) rfl (by simp at hlen; omega) hls (by simp) (ck_lroom hsum) hdg ⟨hc, hs⟩
theorem mk_cs_IN {y : MethodName} {host : String} {cc' : ByteArray} {nL' idx : Nat} {rm : Room} {f : mk_F} {n : Nat} (hmet : mk_met V l y cc' nL' none rm f) (X : mk_cx p e R s m args meth c cc own D V tys T A) (hg : ck_gd V.2.2.2.2.1) (hl : Cond.methodLinkNest own idx y host ∈ V.2.2.2.2.2.2) (hw : ∀ w ∈ ([.instanceMethod y, .initialized y.cls, .code y cc' nL' none] : List Cond), w ∈ V.2.2.2.2.1) (hy1 : y.name = "<init>")
    (hd : y.cls ≠ "java/lang/invoke/MethodHandle" ∧ y.cls ≠ "java/lang/invoke/VarHandle" ∧ (parseMethodDescriptor y.desc).map (fun d => d.parameters.length) = some n) (hR : rm.frames + 1 ≤ R.frames ∧ 8 + (nL' + 11) + rm.locals ≤ R.locals) :
    mk_cs p l e R s m args below meth c Q cc D V.1 tys T A (3 * idx + 2, n + 1, f, rm.cells, rm.slots) := by
  refine mk_cs_gen hmet X ?_
  intro pc ls H locs cells slots As rest Pc Qc free hdg hls hlen hrec hsum hc hs hMet hbl hpre
  rw [ck_ik2] at hdg
  have hts := X.2.2.2.2.2.2.2.2.1
  have hnc := X.2.2.2.2.2.2.2.2.2.2.1
  obtain ⟨b, As', rfl⟩ := hrec (by omega)
  have hGi : GoodIn V.2.2.2.2.1 (.code y cc' nL' none :: V.2.2.2.2.1) := ck_good hg (fun w hww => by
    rcases List.mem_cons.mp hww with rfl | q
    · exact hw _ (by simp)
    · exact q)
  exact va_runIN (rest := rest) ⟨X.1, X.2.1, X.2.2.2.2.2.1, X.2.2.1, hts⟩ hMet ⟨va_cnB n hts hGi rfl rfl rfl (hnc.2 _ hl).2 (hts _ (hw _ (by simp))) hd hR, hy1, hts _ (hw _ (by simp))⟩ ⟨hbl, hpre⟩ (g := F0 m pc ls ((Value.ref b :: As').reverse ++ rest)) rfl (by simp at hlen; omega) hls (by simp) (ck_lroom hsum) hdg ⟨hc, hs⟩
def mk_oF : mk_F := fun W _ => some ([], W)
theorem mk_cs_O (X : mk_cx p e R s m args meth c cc own D V tys T A) {idx : Nat} (hw : ∀ w ∈ ([.methodLink own idx Lib.objectInit, .instanceMethod Lib.objectInit, .code Lib.objectInit ⟨#[0xb1]⟩ 1 none] : List Cond), w ∈ V.2.2.2.2.1) (hR : 1 ≤ R.frames ∧ 8 + 12 ≤ R.locals) :
    mk_cs p l e R s m args below meth c Q cc D V.1 tys T A (3 * idx + 2, 1, mk_oF, 0, 0) := by
  intro pc ls ws W0 H locs cells slots As rest xs r hdg hls hlen hxs hwo hP hD hS hc hs hsum hhd hf hk
  rw [ck_ik2] at hdg
  have hts := X.2.2.2.2.2.2.2.2.1
  cases hf
  cases As with
  | nil => cases hlen
  | cons a As =>
    cases As with
    | cons _ _ => simp at hlen
    | nil =>
      cases xs with
      | nil => exact hxs.elim
      | cons v xs =>
        unfold mk_hd at hhd
        have hi' : ((3 * idx + 2) % 3 == 2) = true := by
          have : (3 * idx + 2) % 3 = 2 := by omega
          rw [this]; rfl
        dsimp only at hhd
        rw [hi', Bool.not_true, Bool.false_or] at hhd
        obtain ⟨b, e0, -, rfl⟩ := hxs.1.r (eq_of_beq hhd)
        refine W.objInit X.1 X.2.1 X.2.2.1 (hts _ (hw _ (by simp))) (hts _ (hw _ (by simp))) (hts _ (hw _ (by simp))) (g := F0 m pc ls ([Value.ref b].reverse ++ rest)) rfl (hls.trans X.2.2.2.2.2.1.symm) (a := b) (rest := rest) rfl hdg hR.1 (by show 2 * 0 + _ + 12 ≤ _; omega) ?_
        exact hk [] ws H locs hwo mk_le.rf hP hD hS trivial
end
end
