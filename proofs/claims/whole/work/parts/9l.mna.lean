/-! A new row of rows of numbers: the machine's step, over states -/
section CiArr
theorem cq_sz (c : ClassId) (N : Nat) (f : Nat → Value) : (arrV c N f).slots.size = N := by simp [arrV]
def cq_o (c : ClassId) (N h i : Nat) : Cell := arrV c N (fun j => if j < i then .ref (h + 1 + j) else .null)
def cq_r (c : ClassId) (K : Nat) : Cell := arrV c K (fun _ => .int 0)
theorem cq_o_s (c : ClassId) (N h i : Nat) : (cq_o c N h i).setSlot i (.ref (h + 1 + i)) = cq_o c N h (i + 1) := by
  unfold cq_o
  rw [arrV_store]
  refine cj_arr (fun j _ => ?_)
  by_cases e : j = i
  · subst e; simp [updV]
  · by_cases h : j < i
    · simp [updV, e, h, Nat.lt_succ_of_lt h]
    · simp [updV, e, h, show ¬ j < i + 1 by omega]
theorem cq_o_0 (c : ClassId) (N h : Nat) : ({ cls := c, slots := Array.replicate N .null, vm := .none } : Cell) = cq_o c N h 0 := by
  rw [arrV_new]
  exact cj_arr (fun j _ => rfl)
/-- the outer row with i rows behind it -/
def cq_f (s : State) (c cy : ClassId) (N K : Nat) : Nat → State
  | 0 => s.pushCell (cq_o c N s.heap.size 0)
  | i + 1 => ((cq_f s c cy N K i).pushCell (cq_r cy K)).setCell s.heap.size (cq_o c N s.heap.size (i + 1))
theorem cq_f_ok (s : State) (c cy : ClassId) (N K : Nat) : ∀ i, (cq_f s c cy N K i).heap.size = s.heap.size + 1 + i ∧ (cq_f s c cy N K i).heap[s.heap.size]? = some (cq_o c N s.heap.size i) ∧ (cq_f s c cy N K i).vm = s.vm ∧ (cq_f s c cy N K i).slotsUsed = s.slotsUsed + N + i * K ∧
    (∀ a, a < s.heap.size → (cq_f s c cy N K i).heap[a]? = s.heap[a]?) ∧ ∀ j, j < i → (cq_f s c cy N K i).heap[s.heap.size + 1 + j]? = some (cq_r cy K)
  | 0 => ⟨by simp [cq_f], by simp [cq_f], rfl, by simp [cq_f, cq_o, cq_sz], fun a ha => State.heap_pushCell_of_lt _ _ ha, fun j h => absurd h (by omega)⟩
  | i + 1 => by
    obtain ⟨h1, h2, h3, h4, h5, h6⟩ := cq_f_ok s c cy N K i
    have hl : s.heap.size < (cq_f s c cy N K i).heap.size := by omega
    have hb : ((cq_f s c cy N K i).pushCell (cq_r cy K)).heap[s.heap.size]? = some (cq_o c N s.heap.size i) := by rw [State.heap_pushCell_of_lt (h := hl)]; exact h2
    refine ⟨?_, State.heap_setCell_self hb, by simp [cq_f, h3], ?_, fun a ha => ?_, fun j hj => ?_⟩
    · simp [cq_f, State.setCell, h1]; omega
    · simp [cq_f, h4, cq_r, cq_sz, Nat.succ_mul]; omega
    · show (((cq_f s c cy N K i).pushCell (cq_r cy K)).setCell s.heap.size _).heap[a]? = _
      rw [State.heap_setCell_other (Nat.ne_of_gt ha), State.heap_pushCell_of_lt (h := Nat.lt_of_lt_of_le ha (by omega))]
      exact h5 a ha
    · show (((cq_f s c cy N K i).pushCell (cq_r cy K)).setCell s.heap.size _).heap[s.heap.size + 1 + j]? = _
      rw [State.heap_setCell_other (show s.heap.size ≠ s.heap.size + 1 + j by omega)]
      by_cases e : j < i
      · have h9 : s.heap.size + 1 + j < (cq_f s c cy N K i).heap.size := by omega
        rw [State.heap_pushCell_of_lt (h := h9)]
        exact h6 j e
      · rw [show s.heap.size + 1 + j = (cq_f s c cy N K i).heap.size by omega]
        exact State.heap_pushCell_size _ _
theorem cq_f_top (s : State) (f : JFrame) (c cy : ClassId) (N K : Nat) : ∀ i, cq_f (s.setTop f) c cy N K i = (cq_f s c cy N K i).setTop f
  | 0 => rfl
  | i + 1 => by simp only [cq_f, cq_f_top s f c cy N K i, State.heap_setTop, State.pushCell_setTop, State.setCell_setTop]
end CiArr
section CiArrW
variable {E : CtlPost} {e : Env} {d : Bool} {acts : List Action} {s : State}
theorem cq_new {c comp : ClassId} {k : Class} {type : FieldType} {len : Nat} {init : Value} (hk : s.vm.classes[c]? = some k) (hkind : k.kind = .array comp type) (hlimit : ¬ len > e.platform.arrayLengthLimit) (hheap : ¬ len * componentBytes type > e.platform.maxHeapBytes) (hfit : fits type init = true) (hdef : init.isDefault = true) {Q : Addr → Pre} (h1 : s.heap.size < e.platform.maxCells) (h2 : s.slotsUsed + len ≤ e.platform.maxSlots) (hq : Q s.heap.size d acts (s.pushCell { cls := c, slots := Array.replicate len init, vm := .none })) :
    wp (Jvm.newArray c len init) Q E e d acts s := by
  have hf : ∀ i v, (Array.replicate len init)[i]? = some v → s.fitsSlot c .none i v = true := fun i v hv => by
    rw [Array.getElem?_replicate] at hv
    split at hv
    · cases hv
      simp [State.fitsSlot, State.slotType?, hk, hkind, hfit]
    · cases hv
  have ha : allocActs (Array.replicate len init) s.heap.size acts = acts := by
    unfold allocActs
    rw [if_pos (by rw [Array.all_replicate]; split <;> simp [hdef])]
  simp only [Jvm.newArray, Jvm.arrayFits, wp_bind', W.ask, W.ite, hlimit, if_false, wp_pure', W.theClass, hk, hkind, hheap, W.alloc, W.stop, Option.some.injEq, exists_eq_left', Array.size_replicate, ha]
  rw [if_neg (by omega)]
  exact ⟨h1, h2, hf, hq⟩
theorem cq_make1 {comp cc : ClassId} {kc : Class} {m : Int32} (hkc : s.vm.classes[comp]? = some kc) (hkindc : kc.kind = .array cc .int) (hm : ¬ m < 0) (hl : ¬ m.toNatClampNeg > e.platform.arrayLengthLimit) (hh : ¬ m.toNatClampNeg * componentBytes .int > e.platform.maxHeapBytes) (h1 : s.heap.size < e.platform.maxCells) (h2 : s.slotsUsed + m.toNatClampNeg ≤ e.platform.maxSlots) {Q : Addr → Pre} (hq : Q s.heap.size d acts (s.pushCell (cq_r comp m.toNatClampNeg))) :
    wp (multianewarray.make comp [m]) Q E e d acts s := by
  rw [multianewarray.make]
  simp only [wp_bind', W.ite, hm, if_false, wp_pure', W.theClass, hkc, hkindc, Option.some.injEq, exists_eq_left']
  refine cq_new hkc hkindc hl hh rfl rfl h1 h2 ?_
  rw [arrV_new]
  exact hq
theorem cq_make2 {c comp cc : ClassId} {k kc : Class} {n m : Int32} (hk : s.vm.classes[c]? = some k) (hkind : k.kind = .array comp (.array .int)) (hkc : s.vm.classes[comp]? = some kc) (hkindc : kc.kind = .array cc .int) (hn : ¬ n < 0) (hm : ¬ m < 0) (hl1 : ¬ n.toNatClampNeg > e.platform.arrayLengthLimit) (hh1 : ¬ n.toNatClampNeg * componentBytes (.array .int) > e.platform.maxHeapBytes) (hl2 : ¬ m.toNatClampNeg > e.platform.arrayLengthLimit) (hh2 : ¬ m.toNatClampNeg * componentBytes .int > e.platform.maxHeapBytes)
    (hc : s.heap.size + 1 + n.toNatClampNeg ≤ e.platform.maxCells) (hs : s.slotsUsed + n.toNatClampNeg + n.toNatClampNeg * m.toNatClampNeg ≤ e.platform.maxSlots) {Q : Addr → Pre} (hq : ∀ d' acts', Q s.heap.size d' acts' (cq_f s c comp n.toNatClampNeg m.toNatClampNeg n.toNatClampNeg)) :
    wp (multianewarray.make c [n, m]) Q E e d acts s := by
  have h0 : ([m].find? (· < 0)) = none := by simp [hm]
  rw [multianewarray.make]
  simp only [wp_bind', W.ite, hn, if_false, wp_pure', W.theClass, hk, hkind, Option.some.injEq, exists_eq_left']
  refine cq_new hk hkind hl1 hh1 rfl rfl (by omega) (by have := Nat.zero_le (n.toNatClampNeg * m.toNatClampNeg); omega) ?_
  rw [cq_o_0 c n.toNatClampNeg s.heap.size]
  simp only [h0]
  rw [ite_self, wp_bind', Std.Legacy.Range.forIn_eq_forIn_range', show ([:n.toNatClampNeg] : Std.Legacy.Range).size = n.toNatClampNeg by simp [Std.Legacy.Range.size]]
  show wp (forIn (List.range' 0 n.toNatClampNeg 1) PUnit.unit _) _ E e d acts _
  refine wp_forIn_inv (fun rest s' => ∃ i, i ≤ n.toNatClampNeg ∧ rest = List.range' i (n.toNatClampNeg - i) ∧ s' = cq_f s c comp n.toNatClampNeg m.toNatClampNeg i) _ _ ⟨0, Nat.zero_le _, rfl, rfl⟩ ?_ ?_
  · rintro x rest s' d' acts' Q' ⟨i, hi, hl, rfl⟩ hnext
    have hlt : i < n.toNatClampNeg := by
      rcases Nat.lt_or_ge i n.toNatClampNeg with h | h
      · exact h
      · rw [show n.toNatClampNeg - i = 0 by omega] at hl
        cases hl
    rw [show n.toNatClampNeg - i = (n.toNatClampNeg - (i + 1)) + 1 by omega, List.range'_succ] at hl
    obtain ⟨rfl, hrest⟩ := List.cons.inj hl
    obtain ⟨f1, f2, f3, f4, -, -⟩ := cq_f_ok s c comp n.toNatClampNeg m.toNatClampNeg x
    have hmul : x * m.toNatClampNeg + m.toNatClampNeg ≤ n.toNatClampNeg * m.toNatClampNeg := by
      have := Nat.mul_le_mul_right m.toNatClampNeg (show x + 1 ≤ n.toNatClampNeg from hlt)
      rwa [Nat.succ_mul] at this
    simp only [wp_bind']
    refine cq_make1 (by rw [f3]; exact hkc) hkindc hm hl2 hh2 (by rw [f1]; omega) (by rw [f4]; omega) ?_
    have h9 : s.heap.size < (cq_f s c comp n.toNatClampNeg m.toNatClampNeg x).heap.size := by rw [f1]; omega
    simp only [wp_bind', W.writeLoc, wp_pure']
    refine ⟨cq_o c n.toNatClampNeg s.heap.size x, by rw [State.heap_pushCell_of_lt (h := h9)]; exact f2, by simp [cq_o, arrV], by rw [cq_o, cq_sz]; exact hlt, ?_, hnext _ _ _ ⟨x + 1, hlt, hrest, ?_⟩⟩
    · simp [cq_o, arrV, State.fitsSlot, State.slotType?, f3, hk, hkind, fits]
    · rw [f1, cq_o_s]; rfl
  · rintro s' d' acts' ⟨i, hi, hl, rfl⟩
    have hi2 : i = n.toNatClampNeg := by
      rcases Nat.lt_or_ge i n.toNatClampNeg with h | h
      · rw [show n.toNatClampNeg - i = (n.toNatClampNeg - (i + 1)) + 1 by omega, List.range'_succ] at hl
        cases hl
      · omega
    subst hi2
    simp only [wp_pure']
    exact hq _ _
end CiArrW
