/-! new int[N][K]: what the machine makes, by one state after the other -/
section MNA
variable {p : Program} {l : Launch} {e : Env} {R : Room} {s : State} {m : MethodId} {args : Array Value} {below : List Frame} {meth : Method} {c : Code} {H : Heap} {locs : List Loc} {cells slots : Nat} {Q : State → Prop}
/-- the outer array with its first i rows there -/
def gridO (cA : ClassId) (N q i : Nat) : Cell := arrV cA N (fun j => if j < i then .ref (q + 1 + j) else .null)
def gridAt (q N K : Nat) (cA comp : ClassId) (H0 : Heap) (i : Nat) (H : Heap) : Prop :=
  H.size = q + 1 + i ∧ H[q]? = some (gridO cA N q i) ∧ (∀ j, j < i → H[q + 1 + j]? = some (arrV comp K (fun _ => .int 0))) ∧ ∀ a, a < q → H[a]? = H0[a]?
theorem gridO_next (cA : ClassId) (N q i : Nat) : (gridO cA N q i).setSlot i (.ref (q + 1 + i)) = gridO cA N q (i + 1) := by
  unfold gridO
  rw [arrV_store]
  congr 1
  funext j
  unfold updV
  by_cases h : j = i
  · subst h
    simp
  · by_cases h2 : j < i
    · simp [h, h2, Nat.lt_succ_of_lt h2]
    · simp [h, h2, show ¬ j < i + 1 by omega]
theorem grid_step {q N K i : Nat} {cA comp : ClassId} {H0 : Heap} {T : State} (hq : q < T.heap.size) (h : gridAt q N K cA comp H0 i T.heap) : gridAt q N K cA comp H0 (i + 1) ((T.pushCell (arrV comp K (fun _ => .int 0))).setCell q (gridO cA N q (i + 1))).heap := by
  obtain ⟨h1, h2, h3, h4⟩ := h
  have hp : ((T.pushCell (arrV comp K (fun _ => .int 0)))).heap.size = T.heap.size + 1 := size_pushCell _ _
  have hq1 : q < (T.pushCell (arrV comp K (fun _ => .int 0))).heap.size := by rw [hp]; exact Nat.lt_succ_of_lt hq
  refine ⟨by rw [size_setCell, hp, h1]; omega, heapAt_setCell_self _ hq1, fun j hj => ?_, fun a ha => ?_⟩
  · have hne : q ≠ q + 1 + j := by omega
    rw [heapAt_setCell_ne _ hne]
    rcases Nat.lt_or_ge j i with hji | hji
    · have hlt : q + 1 + j < T.heap.size := by rw [h1]; omega
      rw [State.heap_pushCell_of_lt _ _ hlt]
      exact h3 j hji
    · have hj2 : j = i := by omega
      rw [hj2, ← h1]
      exact State.heap_pushCell_size _ _
  · have hne : q ≠ a := by omega
    have hlt : a < T.heap.size := Nat.lt_trans ha hq
    rw [heapAt_setCell_ne _ hne, State.heap_pushCell_of_lt _ _ hlt]
    exact h4 a ha
theorem grid_loop {q N K : Nat} {cA comp cc : ClassId} {kC kA : Class} {H0 : Heap} {f : JFrame} {vm₁ : Vm}
    (hkA : vm₁.classes[cA]? = some kA) (hkindA : kA.kind = .array comp (.array .int)) (hkC : vm₁.classes[comp]? = some kC) (hkindC : kC.kind = .array cc .int) (hK2 : K < 1000) (hcells : cells + (1 + N) ≤ R.cells) (hslots : slots + (N + N * K) ≤ R.slots) :
    ∀ (r i : Nat) (T : State), i + r = N → T.vm = vm₁ → gridAt q N K cA comp H0 i T.heap → Stand p l e R s m args below meth c T (locs ++ (List.range i).map (fun j => ⟨q, j⟩)) (cells + 1 + i) (slots + N + i * K) →
      ∃ T' : State, T'.vm = vm₁ ∧ gridAt q N K cA comp H0 N T'.heap ∧ Stand p l e R s m args below meth c T' (locs ++ (List.range N).map (fun j => ⟨q, j⟩)) (cells + 1 + N) (slots + N + N * K) ∧
        ∀ (E : CtlPost) (body : Nat → PUnit → Sem (ForInStep PUnit)) (hB : ∀ (x : Nat) (Q' : ForInStep PUnit → Pre) (d : Bool) (acts : List Action) (s' : State), s'.vm = vm₁ → wp (Jvm.newArray comp K (.int 0)) (fun a d a' s'' => wp (Jvm.writeLoc q x (.ref a)) (fun _ d2 a2 s3 => Q' (.yield PUnit.unit) d2 a2 s3) E e d a' s'') E e d acts s' → wp (body x PUnit.unit) Q' E e d acts s') (Qf : PUnit → Pre) (d : Bool) (acts : List Action), (∀ d' acts', Qf PUnit.unit d' acts' (T'.setTop f)) → wp (forIn (List.range' i r 1) PUnit.unit body) Qf E e d acts (T.setTop f) := by
  intro r
  induction r with
  | zero =>
    intro i T hi hv hg X
    have : i = N := by omega
    subst this
    refine ⟨T, hv, hg, X, fun E body hB Qf d acts h => ?_⟩
    simp only [List.range'_zero, List.forIn_nil, wp_pure']
    exact h _ _
  | succ r ih =>
    intro i T hi hv hg X
    have hq : q < T.heap.size := by rw [hg.1]; omega
    have hcell : (T.pushCell (arrV comp K (fun _ => .int 0))).heap[q]? = some (gridO cA N q i) := by
      rw [State.heap_pushCell_of_lt _ _ hq]
      exact hg.2.1
    have hsz : (arrV comp K (fun _ => .int 0)).slots.size = K := arrV_size _ _ _
    have X2 := (X.pushed (arrV comp K (fun _ => .int 0))).stored hcell i (.ref (q + 1 + i))
    rw [gridO_next, hsz] at X2
    have e2 : (locs ++ (List.range i).map (fun j => (⟨q, j⟩ : Loc))) ++ [⟨q, i⟩] = locs ++ (List.range (i + 1)).map (fun j => (⟨q, j⟩ : Loc)) := by
      simp [List.range_succ, List.append_assoc]
    have e3 : slots + N + i * K + K = slots + N + (i + 1) * K := by rw [Nat.succ_mul]; omega
    rw [e2, e3] at X2
    obtain ⟨T', v1, v2, v3, v4⟩ := ih (i + 1) ((T.pushCell (arrV comp K (fun _ => .int 0))).setCell q (gridO cA N q (i + 1))) (by omega) hv (grid_step hq hg) X2
    refine ⟨T', v1, v2, v3, fun E body hB Qf d acts h => ?_⟩
    have hmul : i * K + K ≤ N * K := by
      have := Nat.mul_le_mul_right K (show i + 1 ≤ N by omega)
      rw [Nat.succ_mul] at this
      exact this
    obtain ⟨r1, r2⟩ := X.roomAbove (a := 1) (b := K) (by omega) (by omega)
    rw [List.range'_succ, List.forIn_cons]
    simp only [wp_bind']
    refine hB _ _ _ _ _ (by rw [State.vm_setTop]; exact hv) ?_
    refine W.newArray_of (k := kC) (comp := cc) (type := .int) (by rw [State.vm_setTop, hv]; exact hkC) hkindC (by rw [Launch.admits_arrayLengthLimit X.admits]; omega) (by rw [Launch.admits_maxHeapBytes X.admits]; show ¬ K * 4 > 536870912; omega) (by rw [State.heap_setTop]; omega) (by show T.slotsUsed + K ≤ _; omega) rfl (fun acts' => ?_)
    rw [W.writeLoc]
    have eP : (T.setTop f).pushCell { cls := comp, slots := Array.replicate K (.int 0) } = (T.pushCell (arrV comp K (fun _ => .int 0))).setTop f := by
      rw [State.pushCell_setTop, ← arrV_new]
    rw [eP]
    refine ⟨gridO cA N q i, (by rw [State.heap_setTop]; exact hcell), (fun z => by cases z), (by show i < (arrV _ _ _).slots.size; rw [arrV_size]; omega), ?_, ?_⟩
    · have this : T.vm.classes[cA]? = some kA := by
        rw [hv]
        exact hkA
      show State.fitsSlot _ cA .none i _ = true
      simp [State.fitsSlot, State.slotType?, this, hkindA, fits]
    · rw [State.heap_setTop, hg.1, gridO_next, State.setCell_setTop]
      exact v4 E body hB _ _ _ h
theorem W_mna {cc : ByteArray} {pc : Nat} {ls : Array Slot} {rest : List Value} (hexec : p.tables.exec = Jvm.exec) (hb : c.code = cc) {own : String} {index : Nat} (hown : s.vm.findClass own = some m.cls) (hclink : (Cond.classLink own index "[[I").before args s = true) (hover : (Cond.arrayOver (.array .int)).before args s = true) (harr : (Cond.arrayClass .int).before args s = true) (hdg : decode cc pc = .ok (.multianewarray index 2, 4)) (N K : Nat) (hN : N < 1000) (hK : K < 1000) (hcells : cells + (1 + N) ≤ R.cells) (hslots : slots + (N + N * K) ≤ R.slots)
    (kk : ∀ (H1 : Heap) (cA comp : ClassId), s.vm.findClass "[[I" = some cA → s.vm.findClass "[I" = some comp → gridAt H.size N K cA comp H N H1 → W p l e R s m args below meth c H1 (locs ++ (List.range N).map (fun j => ⟨H.size, j⟩)) (cells + 1 + N) (slots + N + N * K) Q (F0 m (pc + 4) ls (.ref H.size :: rest))) :
    W p l e R s m args below meth c H locs cells slots Q (F0 m pc ls (.int (nI K) :: .int (nI N) :: rest)) := by
  intro T hT X
  subst hT
  have hpl : e.platform.magicAccessors = ({} : Platform).magicAccessors := by rw [X.admits.platform]
  obtain ⟨comp, cA, kA, hcomp, -, hkA, hkindA, hnameA⟩ := arrayOverA_spec hover
  obtain ⟨comp', kC, cc', hcomp', hkC, hkindC⟩ := Cond.arrayClass_spec harr
  have ecomp : comp' = comp := Option.some.inj (hcomp'.symm.trans hcomp)
  subst ecomp
  obtain ⟨c0, hfc0, hcl⟩ := Cond.classLink_spec hown hclink e.platform hpl
  have ec0 : cA = c0 := Option.some.inj (hnameA.symm.trans hfc0)
  subst ec0
  obtain ⟨hg₁, hwarm₁, hready₁⟩ := State.classEntry (e := e) X.warmed hcl
  generalize T.vm.noted m.cls index (.cls cA) = vm₁ at hg₁ hwarm₁ hready₁
  have hal : s.vm.Alike vm₁ := hwarm₁.alike
  obtain ⟨kA₁, hkA₁, heA⟩ := hal.2.2 _ _ hkA
  obtain ⟨kC₁, hkC₁, heC⟩ := hal.2.2 _ _ hkC
  have hkindA₁ : kA₁.kind = .array comp' (.array .int) := by rw [heA]; exact hkindA
  have hkindC₁ : kC₁.kind = .array cc' .int := by rw [heC]; exact hkindC
  have X₁ := X.noted hwarm₁
  have hcN : (nI N).toNatClampNeg = N := nI_clamp (by omega)
  have hcK : (nI K).toNatClampNeg = K := nI_clamp (by omega)
  have hnN : ¬ nI N < 0 := nI_pos (by omega)
  have hnK : ¬ nI K < 0 := nI_pos (by omega)
  obtain ⟨r1, r2⟩ := X.roomAbove (a := 1) (b := N) (by omega) (by have := Nat.zero_le (N * K); omega)
  have X₂ := X₁.pushed (gridO cA N T.heap.size 0)
  have hsz : (gridO cA N T.heap.size 0).slots.size = N := arrV_size _ _ _
  rw [hsz] at X₂
  have g0 : gridAt T.heap.size N K cA comp' T.heap 0 ((T.setVm vm₁).pushCell (gridO cA N T.heap.size 0)).heap := by
    refine ⟨size_pushCell _ _, State.heap_pushCell_size (T.setVm vm₁) _, fun j hj => absurd hj (Nat.not_lt_zero _), fun a ha => ?_⟩
    exact State.heap_pushCell_of_lt (T.setVm vm₁) _ ha
  obtain ⟨T', v1, v2, v3, v4⟩ := grid_loop (f := F0 m pc ls rest) (q := T.heap.size) (N := N) (K := K) (cA := cA) (comp := comp') (cc := cc') (H0 := T.heap) hkA₁ hkindA₁ hkC₁ hkindC₁ hK hcells hslots N 0 _ (by omega) rfl g0 (by simpa using X₂)
  obtain ⟨t, a1, b1⟩ := kk T'.heap cA comp' hnameA hcomp v2 T' rfl v3
  refine ⟨t, ?_, b1⟩
  jvm_step X.here [hexec, hb, hdg]
  simp only [multianewarray.sem, wp_bind', W.resolveClassAt_links (State.method?_setTop (F0 m pc ls (.int (nI K) :: .int (nI N) :: rest)) X.here.top) hg₁]
  rw [W.popN, if_neg (by decide)]
  refine ⟨F0 m pc ls (.int (nI K) :: .int (nI N) :: rest), State.topJava?_setTop' (s := T.setVm vm₁) _ X.here.top, [.int (nI N), .int (nI K)], rest, rfl, rfl, ?_⟩
  simp only [List.mapM_cons, List.mapM_nil, wp_bind', wp_pure']
  have eS : ((T.setTop (F0 m pc ls (.int (nI K) :: .int (nI N) :: rest))).setVm vm₁).setTop { F0 m pc ls (.int (nI K) :: .int (nI N) :: rest) with stack := rest } = (T.setVm vm₁).setTop (F0 m pc ls rest) := by
    show ((T.setVm vm₁).setTop _).setTop _ = _
    rw [State.setTop_setTop]
  rw [eS, multianewarray.make]
  have hvm : ((T.setVm vm₁).setTop (F0 m pc ls rest)).vm = vm₁ := rfl
  have hfind : ([nI K].find? (· < 0)) = none := by simp [hnK]
  simp only [wp_bind', W.ite, hnN, if_false, wp_pure', W.theClass, hvm, hkA₁, hkindA₁, Option.some.injEq, exists_eq_left', hcN]
  refine W.newArray_of (k := kA₁) (comp := comp') (type := .array .int) hkA₁ hkindA₁ (by rw [Launch.admits_arrayLengthLimit X.admits]; omega) (by rw [Launch.admits_maxHeapBytes X.admits]; show ¬ N * 4 > 536870912; omega) (by show T.heap.size < _; omega) (by show T.slotsUsed + N ≤ _; omega) rfl (fun acts' => ?_)
  simp only [hfind]
  rw [ite_self, wp_bind', Std.Legacy.Range.forIn_eq_forIn_range']
  have hsz2 : ([:N] : Std.Legacy.Range).size = N := by simp [Std.Legacy.Range.size]
  have eP : ((T.setVm vm₁).setTop (F0 m pc ls rest)).pushCell { cls := cA, slots := Array.replicate N .null } = ((T.setVm vm₁).pushCell (gridO cA N T.heap.size 0)).setTop (F0 m pc ls rest) := by
    have eg : gridO cA N T.heap.size 0 = { cls := cA, slots := Array.replicate N .null, vm := .none } := by
      rw [arrV_new]
      unfold gridO
      congr 1
    rw [State.pushCell_setTop, eg]
  rw [hsz2, eP]
  refine v4 _ _ (fun x Q' d acts s' hs' h => ?_) _ _ _ (fun d' acts' => ?_)
  · rw [wp_bind', multianewarray.make]
    simp only [wp_bind', W.ite, hnK, if_false, wp_pure', W.theClass, hs', hkC₁, hkindC₁, Option.some.injEq, exists_eq_left', hcK]
    exact h
  · simp only [wp_bind', wp_pure', W.mark, W.pushRef, State.topJava?_setTop' _ v3.here.top, Option.some.injEq, exists_eq_left', State.setTop_setTop, State.heap_setTop]
    intro acts
    simp [jvm, v3.here.top]
    exact a1
end MNA
