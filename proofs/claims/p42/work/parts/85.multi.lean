noncomputable section
/-! rows of rows of ints, made at one stroke -/
def mz_f (h N : Nat) : Nat → Option Nat := fun i => if i < N then some (h + 1 + i) else none
abbrev mz_o (c : ClassId) (N h i : Nat) : Cell := arrV c N (fun j => va_rf (mz_f h i j))
abbrev mz_i (comp : ClassId) (K : Nat) : Cell := arrV comp K (fun _ => .int 0)
def mz_S (t : State) (c comp : ClassId) (N K : Nat) : Nat → State
  | 0 => t.pushCell (mz_o c N t.heap.size 0)
  | i + 1 => ((mz_S t c comp N K i).pushCell (mz_i comp K)).setCell t.heap.size (mz_o c N t.heap.size (i + 1))
theorem mz_step (c : ClassId) (N h i : Nat) : (mz_o c N h i).setSlot i (.ref (h + 1 + i)) = mz_o c N h (i + 1) := by
  rw [arrV_store]
  refine congrArg (arrV c N) ?_
  funext j
  unfold updV mz_f
  dsimp only
  by_cases e : j = i
  · subst e
    rw [if_pos rfl, if_pos (Nat.lt_succ_self _)]
    rfl
  · rw [if_neg e]
    by_cases g : j < i
    · rw [if_pos g, if_pos (by omega)]
    · rw [if_neg g, if_neg (by omega)]
theorem mz_facts (t : State) (c comp : ClassId) (N K : Nat) : ∀ i, (mz_S t c comp N K i).heap.size = t.heap.size + 1 + i ∧ (mz_S t c comp N K i).heap[t.heap.size]? = some (mz_o c N t.heap.size i) ∧ (mz_S t c comp N K i).vm = t.vm ∧ (mz_S t c comp N K i).slotsUsed = t.slotsUsed + N + i * K
  | 0 => ⟨by simp [mz_S], by simp [mz_S], rfl, by simp [mz_S, arrV_size]⟩
  | i + 1 => by
    obtain ⟨a, b, d, u⟩ := mz_facts t c comp N K i
    have hlt : t.heap.size < (mz_S t c comp N K i).heap.size := by omega
    have hb' : ((mz_S t c comp N K i).pushCell (mz_i comp K)).heap[t.heap.size]? = some (mz_o c N t.heap.size i) := by rw [State.heap_pushCell_of_lt (h := hlt)]; exact b
    refine ⟨?_, State.heap_setCell_self hb', by simp [mz_S, d], ?_⟩
    · simp [mz_S, State.setCell, a]; omega
    · simp [mz_S, u, arrV_size, Nat.succ_mul]; omega
theorem mz_top (t : State) (f : JFrame) (c comp : ClassId) (N K : Nat) : ∀ i, mz_S (t.setTop f) c comp N K i = (mz_S t c comp N K i).setTop f
  | 0 => rfl
  | i + 1 => by simp only [mz_S, mz_top t f c comp N K i, State.heap_setTop, State.pushCell_setTop, State.setCell_setTop]
theorem mz_old (t : State) (c comp : ClassId) (N K : Nat) {a : Addr} (ha : a < t.heap.size) : ∀ i, (mz_S t c comp N K i).heap[a]? = t.heap[a]?
  | 0 => State.heap_pushCell_of_lt _ _ ha
  | i + 1 => by
    have f1 := (mz_facts t c comp N K i).1
    have hlt : a < (mz_S t c comp N K i).heap.size := Nat.lt_of_lt_of_le ha (by rw [f1]; omega)
    show (((mz_S t c comp N K i).pushCell (mz_i comp K)).setCell t.heap.size _).heap[a]? = _
    rw [State.heap_setCell_other (Nat.ne_of_gt ha), State.heap_pushCell_of_lt (h := hlt)]
    exact mz_old t c comp N K ha i
theorem mz_inner (t : State) (c comp : ClassId) (N K : Nat) : ∀ i j, j < i → (mz_S t c comp N K i).heap[t.heap.size + 1 + j]? = some (mz_i comp K)
  | 0, _, h => absurd h (Nat.not_lt_zero _)
  | i + 1, j, h => by
    have f1 := (mz_facts t c comp N K i).1
    show (((mz_S t c comp N K i).pushCell (mz_i comp K)).setCell t.heap.size _).heap[t.heap.size + 1 + j]? = _
    rw [State.heap_setCell_other (show t.heap.size ≠ t.heap.size + 1 + j by omega)]
    rcases Nat.lt_or_ge j i with hj | hj
    · have hlt : t.heap.size + 1 + j < (mz_S t c comp N K i).heap.size := by rw [f1]; omega
      rw [State.heap_pushCell_of_lt (h := hlt)]
      exact mz_inner t c comp N K i j hj
    · have ej : j = i := by omega
      subst ej
      rw [← f1]
      exact State.heap_pushCell_size _ _
section
variable {E : CtlPost} {e : Env} {d : Bool} {acts : List Action} {t : State}
theorem mz_wp1 {c comp : ClassId} {k : Class} {ty : FieldType} {len : Nat} {v : Value} (hk : t.vm.classes[c]? = some k) (hkind : k.kind = .array comp ty) (hlimit : ¬ len > e.platform.arrayLengthLimit) (hheap : ¬ len * componentBytes ty > e.platform.maxHeapBytes) (hfit : fits ty v = true) (hdef : v.isDefault = true) {Q : Addr → Pre}
    (h1 : t.heap.size < e.platform.maxCells) (h2 : t.slotsUsed + len ≤ e.platform.maxSlots) (hq : Q t.heap.size d acts (t.pushCell (arrV c len (fun _ => v)))) : wp (Jvm.newArray c len v) Q E e d acts t := by
  rw [← arrV_new] at hq
  have hfits : ∀ i w, (Array.replicate len v)[i]? = some w → t.fitsSlot c .none i w = true := by
    intro i w hw
    simp only [Array.getElem?_replicate] at hw
    split at hw
    · cases hw; simp [State.fitsSlot, State.slotType?, hk, hkind, hfit]
    · cases hw
  have hda : allocActs (Array.replicate len v) t.heap.size acts = acts := by
    have hall : ((Array.replicate len v).all (·.isDefault)) = true := by
      rw [Array.all_replicate]; split <;> simp [hdef]
    unfold allocActs; rw [if_pos hall]
  simp only [Jvm.newArray, Jvm.arrayFits, wp_bind', Jvm.W.ask, Jvm.W.ite, hlimit, if_false, wp_pure', Jvm.W.theClass, hk, hkind, hheap, Jvm.W.alloc, Jvm.W.stop, Option.some.injEq, exists_eq_left', Array.size_replicate, hda]
  rw [if_neg (by omega)]
  exact ⟨h1, h2, hfits, hq⟩
theorem mz_wp2 {c comp cc : ClassId} {k kc : Class} {n m : Int32} (hk : t.vm.classes[c]? = some k) (hkind : k.kind = .array comp (.array .int)) (hkc : t.vm.classes[comp]? = some kc) (hkindc : kc.kind = .array cc .int) (hn : ¬ n < 0) (hm : ¬ m < 0)
    (hl1 : ¬ n.toNatClampNeg > e.platform.arrayLengthLimit) (hh1 : ¬ n.toNatClampNeg * 4 > e.platform.maxHeapBytes) (hl2 : ¬ m.toNatClampNeg > e.platform.arrayLengthLimit) (hh2 : ¬ m.toNatClampNeg * 4 > e.platform.maxHeapBytes)
    (hc : t.heap.size + 1 + n.toNatClampNeg ≤ e.platform.maxCells) (hs : t.slotsUsed + n.toNatClampNeg + n.toNatClampNeg * m.toNatClampNeg ≤ e.platform.maxSlots)
    {Q : Addr → Pre} (hq : ∀ d' acts', Q t.heap.size d' acts' (mz_S t c comp n.toNatClampNeg m.toNatClampNeg n.toNatClampNeg)) : wp (multianewarray.make c [n, m]) Q E e d acts t := by
  have hfind : ([m].find? (· < 0)) = none := by simp [hm]
  rw [multianewarray.make]
  simp only [wp_bind', Jvm.W.ite, hn, if_false, wp_pure', Jvm.W.theClass, hk, hkind, Option.some.injEq, exists_eq_left']
  refine mz_wp1 hk hkind hl1 hh1 rfl rfl (by omega) (by have := Nat.zero_le (n.toNatClampNeg * m.toNatClampNeg); omega) ?_
  simp only [hfind]
  rw [ite_self, wp_bind', Std.Legacy.Range.forIn_eq_forIn_range']
  have hsz : ([:n.toNatClampNeg] : Std.Legacy.Range).size = n.toNatClampNeg := by simp [Std.Legacy.Range.size]
  rw [hsz]
  show wp (forIn (List.range' 0 n.toNatClampNeg 1) PUnit.unit _) _ E e d acts _
  refine wp_forIn_inv (fun rest t' => ∃ i, i ≤ n.toNatClampNeg ∧ rest = List.range' i (n.toNatClampNeg - i) ∧ t' = mz_S t c comp n.toNatClampNeg m.toNatClampNeg i) _ _ ⟨0, Nat.zero_le _, rfl, ?_⟩ ?_ ?_
  · rfl
  · rintro x rest t' d' acts' Q' ⟨i, hi, hl, rfl⟩ hnext
    have hlt : i < n.toNatClampNeg := by
      rcases Nat.lt_or_ge i n.toNatClampNeg with h | h
      · exact h
      · rw [show n.toNatClampNeg - i = 0 from by omega] at hl; simp at hl
    obtain ⟨rfl, hrest⟩ : x = i ∧ rest = List.range' (i + 1) (n.toNatClampNeg - (i + 1)) := by
      rw [show n.toNatClampNeg - i = (n.toNatClampNeg - (i + 1)) + 1 from by omega, List.range'_succ] at hl
      exact ⟨(List.cons.inj hl).1, (List.cons.inj hl).2⟩
    obtain ⟨f1, f2, f3, f4⟩ := mz_facts t c comp n.toNatClampNeg m.toNatClampNeg x
    have hmul : x * m.toNatClampNeg + m.toNatClampNeg ≤ n.toNatClampNeg * m.toNatClampNeg := by
      have := Nat.mul_le_mul_right m.toNatClampNeg (show x + 1 ≤ n.toNatClampNeg from hlt)
      rw [Nat.succ_mul] at this; exact this
    have hlt0 : t.heap.size < (mz_S t c comp n.toNatClampNeg m.toNatClampNeg x).heap.size := by rw [f1]; omega
    simp only [wp_bind']
    rw [multianewarray.make]
    simp only [wp_bind', Jvm.W.ite, hm, if_false, wp_pure', Jvm.W.theClass, f3, hkc, hkindc, Option.some.injEq, exists_eq_left']
    refine mz_wp1 (by rw [f3]; exact hkc) hkindc hl2 hh2 rfl rfl (by rw [f1]; omega) (by rw [f4]; omega) ?_
    simp only [wp_bind', Jvm.W.writeLoc, wp_pure']
    refine ⟨mz_o c n.toNatClampNeg t.heap.size x, by rw [State.heap_pushCell_of_lt (h := hlt0)]; exact f2, by simp [arrV], by rw [arrV_size]; exact hlt, ?_, hnext _ _ _ ⟨x + 1, hlt, hrest, ?_⟩⟩
    · simp [arrV, State.fitsSlot, State.slotType?, f3, hk, hkind]
      rfl
    · rw [f1, mz_step]
      rfl
  · rintro t' d' acts' ⟨i, hi, hl, rfl⟩
    have hiN : i = n.toNatClampNeg := by
      rcases Nat.lt_or_ge i n.toNatClampNeg with h | h
      · rw [show n.toNatClampNeg - i = (n.toNatClampNeg - (i + 1)) + 1 from by omega, List.range'_succ] at hl; cases hl
      · omega
    subst hiN
    simp only [wp_pure']
    exact hq _ _
end
section
variable {p : Program} {l : Launch} {e : Env} {R : Room} {s : State} {m : MethodId} {args : Array Value} {below : List Frame} {meth : Method} {c : Code} {H0 H : Heap} {locs : List Loc} {cells slots : Nat} {Q : State → Prop} {cc : ByteArray} {pc : Nat} {ls : Array Slot} {rest : List Value} {D : va_G} {cl : List vw_C} {tys : List (ClassId × FieldType)} {ws : va_W} {A : Nat → Prop} {T : State}
theorem mz_stand (X : Stand p l e R s m args below meth c T locs cells slots) (cA comp : ClassId) (N K : Nat) : ∀ i, Stand p l e R s m args below meth c (mz_S T cA comp N K i) (locs ++ (List.range i).map fun j => ⟨T.heap.size, j⟩) (cells + 1 + i) (slots + N + i * K)
  | 0 => by
    have h := X.pushed (mz_o cA N T.heap.size 0)
    rw [arrV_size] at h
    simpa [mz_S] using h
  | i + 1 => by
    have Xi := mz_stand X cA comp N K i
    obtain ⟨f1, f2, f3, f4⟩ := mz_facts T cA comp N K i
    have hlt0 : T.heap.size < (mz_S T cA comp N K i).heap.size := by rw [f1]; omega
    have hcell : ((mz_S T cA comp N K i).pushCell (mz_i comp K)).heap[T.heap.size]? = some (mz_o cA N T.heap.size i) := by rw [State.heap_pushCell_of_lt (h := hlt0)]; exact f2
    have h := (Xi.pushed (mz_i comp K)).stored hcell i (.ref (T.heap.size + 1 + i))
    rw [mz_step, arrV_size] at h
    have e2 : (locs ++ (List.range (i + 1)).map fun j => (⟨T.heap.size, j⟩ : Loc)) = (locs ++ (List.range i).map fun j => (⟨T.heap.size, j⟩ : Loc)) ++ [⟨T.heap.size, i⟩] := by simp [List.range_succ, List.append_assoc]
    have e3 : slots + N + (i + 1) * K = slots + N + i * K + K := by rw [Nat.succ_mul]; omega
    rw [e2, e3]
    exact h
end
def mk_AI (U : State) : Prop := ∃ (comp cA : ClassId) (kA : Class), U.vm.findClass "[I" = some comp ∧ U.vm.classes[cA]? = some kA ∧ kA.kind = .array comp (.array .int) ∧ U.vm.findClass "[[I" = some cA
theorem mz_D {A : Nat → Prop} {ws l : va_W} {H : Heap} {D : va_G} {cl : List vw_C} (hD : va_D A ws) (hP : va_P D cl ws H) (hl : ∀ (j : Nat) (x : Nat × va_E), l[j]? = some x → x.1 = H.size + j) (hA : ∀ q, H.size ≤ q → A q) : va_D A (ws ++ l) := by
  have key : ∀ (i : Nat) (x : Nat × va_E), (ws ++ l)[i]? = some x → (ws[i]? = some x ∧ x.1 < H.size) ∨ (ws.length ≤ i ∧ x.1 = H.size + (i - ws.length)) := by
    intro i x hx
    by_cases hi : i < ws.length
    · rw [List.getElem?_append_left hi] at hx
      exact Or.inl ⟨hx, (hP i x hx).lt⟩
    · rw [List.getElem?_append_right (by omega)] at hx
      exact Or.inr ⟨by omega, hl _ x hx⟩
  refine ⟨fun i j x y hx hy hxy => ?_, fun i x hx => ?_⟩
  · rcases key i x hx with ⟨a1, a2⟩ | ⟨a1, a2⟩ <;> rcases key j y hy with ⟨b1, b2⟩ | ⟨b1, b2⟩
    · exact hD.1 i j x y a1 b1 hxy
    · omega
    · omega
    · omega
  · rcases key i x hx with ⟨a1, a2⟩ | ⟨a1, a2⟩
    · exact hD.2 i x a1
    · exact hA _ (by omega)
section
variable {p : Program} {l : Launch} {e : Env} {R : Room} {s : State} {m : MethodId} {args : Array Value} {below : List Frame} {meth : Method} {c : Code} {H0 H : Heap} {locs : List Loc} {cells slots : Nat} {Q : State → Prop} {cc : ByteArray} {pc : Nat} {ls : Array Slot} {rest : List Value} {D : va_G} {cl : List vw_C} {tys : List (ClassId × FieldType)} {ws : va_W} {A : Nat → Prop} {T : State}
theorem mz_go (X : Stand p l e R s m args below meth c T locs cells slots) (hexec : p.tables.exec = Jvm.exec) {own : String} {index : Nat} (hown : s.vm.findClass own = some m.cls) (hclink : (Cond.classLink own index "[[I").before args s = true) (hai : mk_AI s) (harr : (Cond.arrayClass .int).before args s = true)
    {g : JFrame} (hg : g.method = m) (hdg : decode c.code g.pc = .ok (.multianewarray index 2, 4)) {n k : Int32} {rest : List Value} (hstack : g.stack = .int k :: .int n :: rest) (hn : ¬ n < 0) (hk : ¬ k < 0) (hb1 : n.toNatClampNeg ≤ 60000) (hb2 : k.toNatClampNeg ≤ 60000)
    (hcells : cells + (1 + n.toNatClampNeg) ≤ R.cells) (hslots : slots + (n.toNatClampNeg + n.toNatClampNeg * k.toNatClampNeg) ≤ R.slots) :
    ∃ (vm₁ : Vm) (cA comp : ClassId), s.vm.findClass "[[I" = some cA ∧ s.vm.findClass "[I" = some comp ∧
      Stand p l e R s m args below meth c (mz_S (T.setVm vm₁) cA comp n.toNatClampNeg k.toNatClampNeg n.toNatClampNeg) (locs ++ (List.range n.toNatClampNeg).map fun j => ⟨T.heap.size, j⟩) (cells + 1 + n.toNatClampNeg) (slots + n.toNatClampNeg + n.toNatClampNeg * k.toNatClampNeg) ∧
      ∀ target, Steps p.tables e below ((mz_S (T.setVm vm₁) cA comp n.toNatClampNeg k.toNatClampNeg n.toNatClampNeg).setTop { g with pc := g.pc + 4, stack := .ref T.heap.size :: rest }) target → Steps p.tables e below (T.setTop g) target := by
  subst hg
  have hpl : e.platform.magicAccessors = ({} : Platform).magicAccessors := by rw [X.admits.platform]
  obtain ⟨comp, cA, kA, hcomp, hkA, hkindA, hnameA⟩ := hai
  obtain ⟨comp', kC, cc', hcomp', hkC, hkindC⟩ := Cond.arrayClass_spec harr
  have hcomp' : s.vm.findClass "[I" = some comp' := hcomp'
  have ecomp : comp' = comp := Option.some.inj (hcomp'.symm.trans hcomp)
  subst ecomp
  obtain ⟨c0, hfc0, hcl⟩ := Cond.classLink_spec hown hclink e.platform hpl
  cases hnameA.symm.trans hfc0
  obtain ⟨hg₁, hwarm₁, hready₁⟩ := State.classEntry (e := e) X.warmed hcl
  generalize T.vm.noted g.method.cls index (.cls cA) = vm₁ at hg₁ hwarm₁ hready₁
  have hal : s.vm.Alike vm₁ := hwarm₁.alike
  obtain ⟨kA₁, hkA₁, heA⟩ := hal.2.2 _ _ hkA
  obtain ⟨kC₁, hkC₁, heC⟩ := hal.2.2 _ _ hkC
  have hkindA₁ : kA₁.kind = .array comp' (.array .int) := by rw [heA]; exact hkindA
  have hkindC₁ : kC₁.kind = .array cc' .int := by rw [heC]; exact hkindC
  have X₁ := X.noted hwarm₁
  obtain ⟨hr1, hr2⟩ := X.roomAbove hcells hslots
  refine ⟨vm₁, cA, comp', hnameA, hcomp, mz_stand X₁ cA comp' _ _ _, fun target hrest => ?_⟩
  have hl1 : ¬ n.toNatClampNeg > e.platform.arrayLengthLimit := by rw [Launch.admits_arrayLengthLimit X.admits]; omega
  have hh1 : ¬ n.toNatClampNeg * 4 > e.platform.maxHeapBytes := by rw [Launch.admits_maxHeapBytes X.admits]; omega
  have hl2 : ¬ k.toNatClampNeg > e.platform.arrayLengthLimit := by rw [Launch.admits_arrayLengthLimit X.admits]; omega
  have hh2 : ¬ k.toNatClampNeg * 4 > e.platform.maxHeapBytes := by rw [Launch.admits_maxHeapBytes X.admits]; omega
  jvm_step X.here [hexec, hdg]
  simp only [multianewarray.sem, wp_bind', Jvm.W.resolveClassAt_links (State.method?_setTop g X.here.top) hg₁]
  rw [Jvm.W.popN, if_neg (by decide)]
  refine ⟨g, State.topJava?_setTop' (s := T.setVm vm₁) g X.here.top, [.int n, .int k], rest, rfl, hstack, ?_⟩
  simp only [List.mapM_cons, List.mapM_nil, wp_bind', wp_pure']
  refine mz_wp2 (k := kA₁) (kc := kC₁) (comp := comp') (cc := cc') hkA₁ hkindA₁ hkC₁ hkindC₁ hn hk hl1 hh1 hl2 hh2 (by show T.heap.size + 1 + _ ≤ _; omega) (by show T.slotsUsed + _ + _ ≤ _; omega) (fun d' acts' => ?_)
  have XF := mz_stand X₁ cA comp' n.toNatClampNeg k.toNatClampNeg n.toNatClampNeg
  have eS : ((T.setTop g).setVm vm₁).setTop { g with stack := rest } = (T.setVm vm₁).setTop { g with stack := rest } := by
    show ((T.setVm vm₁).setTop g).setTop _ = _
    rw [State.setTop_setTop]
  rw [eS, mz_top]
  simp only [wp_bind', Jvm.W.mark, Jvm.W.pushRef, State.topJava?_setTop' _ XF.here.top, Option.some.injEq, exists_eq_left', State.setTop_setTop, State.heap_setTop]
  intro acts
  simp [jvm, XF.here.top]
  exact hrest
theorem mz_row (hexec : p.tables.exec = Jvm.exec) (hb : c.code = cc) {own : String} {index : Nat} (hown : s.vm.findClass own = some m.cls) (hclink : (Cond.classLink own index "[[I").before args s = true) (hai : mk_AI s) (harr : (Cond.arrayClass .int).before args s = true) (hK : va_K D cl tys s) (hP : va_P D cl ws H) (hD : va_D A ws) (hS : va_S A H0 H locs) (hA : ∀ q, H0.size ≤ q → A q)
    {t5 t0 : Nat} {c5 c0 : ClassId} (g5 : tys[t5]? = some (c5, .array .int)) (g0 : tys[t0]? = some (c0, .int)) {n k : Int32} {N K : Nat} (hn : ¬ n < 0) (hk : ¬ k < 0) (hN : n.toNatClampNeg = N) (hKK : k.toNatClampNeg = K) (hb1 : N ≤ 60000) (hb2 : K ≤ 60000)
    (hcells : cells + (1 + N) ≤ R.cells) (hslots : slots + (N + N * K) ≤ R.slots) (hdg : decode cc pc = .ok (.multianewarray index 2, 4))
    (kk : ∀ (q : Nat) (H1 : Heap) (locs1 : List Loc), va_P D cl (ws ++ (q, .inl (c5, N, .inr (.inr (.inr (.inr (mz_f q N)))))) :: (List.range N).map (fun i => (q + 1 + i, .inl (c0, K, .inl (fun _ => 0))))) H1 → va_D A (ws ++ (q, .inl (c5, N, .inr (.inr (.inr (.inr (mz_f q N)))))) :: (List.range N).map (fun i => (q + 1 + i, .inl (c0, K, .inl (fun _ => 0))))) → va_S A H0 H1 locs1 →
      W p l e R s m args below meth c H1 locs1 (cells + (1 + N)) (slots + (N + N * K)) Q (F0 m (pc + 4) ls (.ref q :: rest))) : W p l e R s m args below meth c H locs cells slots Q (F0 m pc ls (.int k :: .int n :: rest)) := by
  subst hN
  subst hKK
  intro T hT X
  subst hT
  subst hb
  obtain ⟨vm₁, cA, comp, f1, f2, X1, step⟩ := mz_go X hexec hown hclink hai harr (g := F0 m pc ls (.int k :: .int n :: rest)) rfl hdg rfl hn hk hb1 hb2 hcells hslots
  obtain ⟨z1, z2, z3, z4⟩ := mz_facts (T.setVm vm₁) cA comp n.toNatClampNeg k.toNatClampNeg n.toNatClampNeg
  have e5 : c5 = cA := by
    have h5 : va_RA s c5 (.array .int) := (hK.2 t5 _ g5).2
    have h5 : s.vm.findClass ("[" ++ (FieldType.array .int).toString) = some c5 := h5
    rw [show "[" ++ (FieldType.array .int).toString = "[[I" by decide] at h5
    exact Option.some.inj (h5.symm.trans f1)
  have e0 : c0 = comp := by
    have h0 : va_RA s c0 .int := (hK.2 t0 _ g0).2
    have h0 : s.vm.findClass ("[" ++ FieldType.int.toString) = some c0 := h0
    rw [show "[" ++ FieldType.int.toString = "[I" by decide] at h0
    exact Option.some.inj (h0.symm.trans f2)
  subst e5
  subst e0
  have hsz : (T.setVm vm₁).heap.size = T.heap.size := rfl
  have old : ∀ q : Nat, q < T.heap.size → (mz_S (T.setVm vm₁) c5 c0 n.toNatClampNeg k.toNatClampNeg n.toNatClampNeg).heap[q]? = T.heap[q]? := fun q hq => mz_old (T.setVm vm₁) c5 c0 _ _ hq _
  obtain ⟨t2, a1, b1⟩ := kk T.heap.size (mz_S (T.setVm vm₁) c5 c0 n.toNatClampNeg k.toNatClampNeg n.toNatClampNeg).heap (locs ++ (List.range n.toNatClampNeg).map fun j => ⟨T.heap.size, j⟩)
    ((hP.kept (fun i x hx => old x.1 (hP i x hx).lt)).app (fun i x hx => by
      cases i with
      | zero =>
        rw [List.getElem?_cons_zero] at hx
        cases hx
        exact z2
      | succ i =>
        rw [List.getElem?_cons_succ, List.getElem?_map] at hx
        cases hr : (List.range n.toNatClampNeg)[i]? with
        | none => rw [hr] at hx; cases hx
        | some j =>
          rw [hr] at hx
          cases hx
          obtain ⟨hi, ej⟩ := List.getElem?_eq_some_iff.mp hr
          rw [List.getElem_range] at ej
          subst ej
          rw [List.length_range] at hi
          exact mz_inner (T.setVm vm₁) c5 c0 _ _ _ i hi))
    (mz_D hD hP (fun j x hx => by
      cases j with
      | zero =>
        rw [List.getElem?_cons_zero] at hx
        cases hx
        rfl
      | succ i =>
        rw [List.getElem?_cons_succ, List.getElem?_map] at hx
        cases hr : (List.range n.toNatClampNeg)[i]? with
        | none => rw [hr] at hx; cases hx
        | some j =>
          rw [hr] at hx
          cases hx
          obtain ⟨hi, ej⟩ := List.getElem?_eq_some_iff.mp hr
          rw [List.getElem_range] at ej
          subst ej
          show T.heap.size + 1 + i = T.heap.size + (i + 1)
          omega) (fun q hq => hA q (Nat.le_trans hS.1 hq)))
    ⟨Nat.le_trans hS.1 (by rw [z1, hsz]; omega), fun q h1 h2 => (old q (Nat.lt_of_lt_of_le h1 hS.1)).trans (hS.2.1 q h1 h2), fun x hx => by
      rcases List.mem_append.mp hx with h | h
      · exact hS.2.2 x h
      · obtain ⟨j, -, rfl⟩ := List.mem_map.mp h
        exact hA _ hS.1⟩
    _ rfl (by rw [← Nat.add_assoc, ← Nat.add_assoc]; exact X1)
  exact ⟨t2, step t2 a1, b1⟩
end
end
