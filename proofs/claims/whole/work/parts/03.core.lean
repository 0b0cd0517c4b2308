/-! THE ABSTRACT HEAP: cells by their number; (kind, length) of each; ints, longs, references by cell and place -/
abbrev PH : Type := (Nat × (Nat → Nat × Nat)) × (Nat → Nat → Int32) × (Nat → Nat → Int64) × (Nat → Nat → Option Nat)
abbrev Mth : Type := MethodName × ByteArray × Nat × Option FieldType
abbrev GP : Type := Launch × Nat × (Nat → Int32)
abbrev clX : List vw_C := [(RX0, TX0, 5), (RX1, TX1, 14), (RX2, TX2, 16), (RX3, TX3, 12), (RX4, TX4, 9), (RX5, TX5, 9), (RX6, TX6, 5), (RX7, TX7, 2), (RX8, TX8, 7), (RX9, TX9, 80)]
def tyX (ci : Nat) : Nat → FieldType := match ci with
  | 0 => tyX0
  | 1 => tyX1
  | 2 => tyX2
  | 3 => tyX3
  | 4 => tyX4
  | 5 => tyX5
  | 6 => tyX6
  | 7 => tyX7
  | 8 => tyX8
  | _ => tyX9
def isR (ci j : Nat) : Bool := (tyX ci j).isReference
def tTy (t : Nat) : FieldType := match t with
  | 10 => .int
  | 11 => .byte
  | 12 => .boolean
  | 13 => .long
  | _ => .array .int
def tyl (dA : Nat → ClassId) : List (ClassId × FieldType) := [(dA 10, .int), (dA 11, .byte), (dA 12, .boolean), (dA 13, .long), (dA 14, .array .int)]
def TBL : List Cond := lw_tbl.filter goodWord
def isNest : Cond → Bool
  | .methodLinkNest _ _ _ _ => true
  | .arrayOver (.array _) => true
  | _ => false
def NST : List Cond := tables_1.filter isNest
/-- a value with the abstract references made real -/
def tr (ad : Nat → Nat) (v : Value) : Value := match v with
  | .ref k => .ref (ad k)
  | v => v
def trL (ad : Nat → Nat) (q : Nat × Value) : Nat × Value := (q.1, tr ad q.2)
def fvE (ad : Nat → Nat) (h : PH) (k ci j : Nat) : Value := if isR ci j then va_rf ((h.2.2.2 k j).map ad) else .int (h.2.1 k j)
def cE (dA : Nat → ClassId) (ad : Nat → Nat) (h : PH) (k : Nat) : va_E :=
  if (h.1.2 k).1 < 10 then .inr ((h.1.2 k).1, (List.range (h.1.2 k).2).map (fun j => fvE ad h k (h.1.2 k).1 j))
  else if (h.1.2 k).1 = 13 then .inl (dA 13, (h.1.2 k).2, .inr (.inl (h.2.2.1 k)))
  else if (h.1.2 k).1 = 14 then .inl (dA 14, (h.1.2 k).2, .inr (.inr (.inr (.inr (fun j => (h.2.2.2 k j).map ad)))))
  else .inl (dA (h.1.2 k).1, (h.1.2 k).2, .inl (h.2.1 k))
def wl (dA : Nat → ClassId) (ad : Nat → Nat) (h : PH) : va_W := (List.range h.1.1).map (fun k => (ad k, cE dA ad h k))
theorem wl_get {dA : Nat → ClassId} {ad : Nat → Nat} {h : PH} {k : Nat} (hk : k < h.1.1) : (wl dA ad h)[k]? = some (ad k, cE dA ad h k) := by
  unfold wl
  rw [List.getElem?_map, List.getElem?_range hk]
  rfl
theorem wl_at {dA : Nat → ClassId} {ad : Nat → Nat} {h : PH} {k : Nat} {q : Nat × va_E} (hq : (wl dA ad h)[k]? = some q) : k < h.1.1 ∧ q = (ad k, cE dA ad h k) := by
  unfold wl at hq
  rw [List.getElem?_map] at hq
  by_cases hk : k < h.1.1
  · rw [List.getElem?_range hk] at hq
    exact ⟨hk, (Option.some.inj hq).symm⟩
  · rw [List.getElem?_eq_none (by rw [List.length_range]; omega)] at hq
    cases hq
theorem wl_set {dA : Nat → ClassId} {ad : Nat → Nat} {h h' : PH} {k : Nat} {e : va_E} (h1 : h'.1 = h.1) (he : e = cE dA ad h' k) (ho : ∀ j, j ≠ k → cE dA ad h' j = cE dA ad h j) : (wl dA ad h).set k (ad k, e) = wl dA ad h' := by
  apply List.ext_getElem?
  intro j
  rw [List.getElem?_set]
  by_cases hj : j < h.1.1
  · rw [wl_get (h := h') (by rw [h1]; exact hj)]
    by_cases hk : k = j
    · subst hk
      rw [if_pos rfl, if_pos (by simp [wl]; exact hj), he]
    · rw [if_neg hk, wl_get hj, ho j (fun q => hk q.symm)]
  · have n1 : (wl dA ad h')[j]? = none := List.getElem?_eq_none (by simp [wl, h1]; omega)
    have n2 : (wl dA ad h)[j]? = none := List.getElem?_eq_none (by simp [wl]; omega)
    rw [n1]
    by_cases hk : k = j
    · subst hk
      rw [if_pos rfl, if_neg (by simp [wl]; omega)]
    · rw [if_neg hk, n2]
def u2 {α : Type} (f : Nat → Nat → α) (k j : Nat) (x : α) : Nat → Nat → α := fun a b => if a = k then (if b = j then x else f a b) else f a b
def wI (h : PH) (k j : Nat) (x : Int32) : PH := (h.1, u2 h.2.1 k j x, h.2.2)
def wJ (h : PH) (k j : Nat) (x : Int64) : PH := (h.1, h.2.1, u2 h.2.2.1 k j x, h.2.2.2)
def wR (h : PH) (k j : Nat) (x : Option Nat) : PH := (h.1, h.2.1, h.2.2.1, u2 h.2.2.2 k j x)
theorem cE_wI_ne {dA : Nat → ClassId} {ad : Nat → Nat} {h : PH} {k j a : Nat} {x : Int32} (ha : a ≠ k) : cE dA ad (wI h k j x) a = cE dA ad h a := by
  unfold cE wI fvE u2
  simp [ha]
theorem cE_wJ_ne {dA : Nat → ClassId} {ad : Nat → Nat} {h : PH} {k j a : Nat} {x : Int64} (ha : a ≠ k) : cE dA ad (wJ h k j x) a = cE dA ad h a := by
  unfold cE wJ fvE u2
  simp [ha]
theorem cE_wR_ne {dA : Nat → ClassId} {ad : Nat → Nat} {h : PH} {k j a : Nat} {x : Option Nat} (ha : a ≠ k) : cE dA ad (wR h k j x) a = cE dA ad h a := by
  unfold cE wR fvE u2
  simp [ha]
theorem cE_obj {dA : Nat → ClassId} {ad : Nat → Nat} {h : PH} {k ci N : Nat} (hk : h.1.2 k = (ci, N)) (hc : ci < 10) : cE dA ad h k = .inr (ci, (List.range N).map (fun j => fvE ad h k ci j)) := by
  unfold cE
  rw [hk]
  simp [hc]
theorem cE_arr {dA : Nat → ClassId} {ad : Nat → Nat} {h : PH} {k t N : Nat} (hk : h.1.2 k = (t, N)) (hc : ¬ t < 10) (h3 : t ≠ 13) (h4 : t ≠ 14) : cE dA ad h k = .inl (dA t, N, .inl (h.2.1 k)) := by
  unfold cE
  rw [hk]
  simp [hc, h3, h4]
theorem cE_long {dA : Nat → ClassId} {ad : Nat → Nat} {h : PH} {k N : Nat} (hk : h.1.2 k = (13, N)) : cE dA ad h k = .inl (dA 13, N, .inr (.inl (h.2.2.1 k))) := by
  unfold cE
  rw [hk]
  simp
theorem cE_refs {dA : Nat → ClassId} {ad : Nat → Nat} {h : PH} {k N : Nat} (hk : h.1.2 k = (14, N)) : cE dA ad h k = .inl (dA 14, N, .inr (.inr (.inr (.inr (fun j => (h.2.2.2 k j).map ad))))) := by
  unfold cE
  rw [hk]
  simp
theorem range_set {α : Type} {N j : Nat} {f g : Nat → α} {v : α} (hj : g j = v) (ho : ∀ i, i ≠ j → g i = f i) : ((List.range N).map f).set j v = (List.range N).map g := by
  apply List.ext_getElem?
  intro i
  rw [List.getElem?_set, List.getElem?_map, List.getElem?_map]
  by_cases hi : i < N
  · rw [List.getElem?_range hi]
    by_cases h : j = i
    · subst h
      rw [if_pos rfl, if_pos (by simp; exact hi), ← hj]
      rfl
    · rw [if_neg h]
      show some (f i) = some (g i)
      rw [ho i (fun q => h q.symm)]
  · rw [List.getElem?_eq_none (by rw [List.length_range]; omega)]
    by_cases h : j = i
    · subst h
      rw [if_pos rfl, if_neg (by simp; omega)]
      rfl
    · rw [if_neg h]
      rfl
/-! WHAT A RUNNING METHOD STANDS ON -/
abbrev SB : Nat := 1000000
def txW : String := "first toll bar if or and kind beasts guards bales hungry day inn late "
def byW : List Int32 := [102, 105, 114, 115, 116, 32, 116, 111, 108, 108, 32, 98, 97, 114, 32, 105, 102, 32, 111, 114, 32, 97, 110, 100, 32, 107, 105, 110, 100, 32, 98, 101, 97, 115, 116, 115, 32, 103, 117, 97, 114, 100, 115, 32, 98, 97, 108, 101, 115, 32, 104, 117, 110, 103, 114, 121, 32, 100, 97, 121, 32, 105, 110, 110, 32, 108, 97, 116, 101, 32]
/-- the text constant, at the abstract cells SB and SB + 1; the script, at SB + 2 -/
def EXT (g : GP) (ad : Nat → Nat) (A : Nat → Prop) (s : State) : Prop :=
  vk_R RX6 65 txW (ad SB) s ∧ vk_S 1 [70] [byW] (fun _ => ad SB) (fun _ => ad (SB + 1)) A s s.heap ∧ va_Z "java/lang/String" "COMPACT_STRINGS" "Z" (.int 1) A s s.heap ∧ (∃ z : Value, (z = .null ∨ z = .ref (SB + 3)) ∧ va_Z "jdk/internal/util/Preconditions" "SIOOBE_FORMATTER" "Ljava/util/function/BiFunction;" (tr ad z) A s s.heap) ∧ va_X (ad (SB + 2)) g.2.1 g.2.2 s s.heap ∧ ad (SB + 2) < s.heap.size ∧ ¬ A (ad (SB + 2))
def AG (ad ad' : Nat → Nat) (n n' : Nat) : Prop := n ≤ n' ∧ ∀ k, k < n ∨ n' ≤ k → ad' k = ad k
def MC (g : GP) (M : Mth) (d : Nat) (p : Program) (R : Room) (s : State) (m : MethodId) (args : Array Value) (meth : Method) (c : Code) (D : va_G) (dA : Nat → ClassId) (A : Nat → Prop) (ad : Nat → Nat) : Prop :=
  (p.tables.exec = Jvm.exec ∧ c.code = M.2.1 ∧ c.maxLocals = M.2.2.1 ∧ s.vm.findClass M.1.cls = some m.cls ∧ (∀ w ∈ TBL, w.before args s = true)) ∧ (∀ w ∈ NST, va_Nw w s) ∧ va_K D clX (tyl dA) s ∧ (M.1.name = "<init>" → meth.name = "<init>") ∧ (d ≤ R.frames ∧ 64 * d ≤ R.locals) ∧ (∀ q, s.heap.size ≤ q → A q) ∧ EXT g ad A s
def WD (D : va_G) (dA : Nat → ClassId) (A : Nat → Prop) (ad : Nat → Nat) (h : PH) (s : State) (H : Heap) (locs : List Loc) : Prop :=
  va_P D clX (wl dA ad h) H ∧ va_D A (wl dA ad h) ∧ va_S A s.heap H locs
/-- a return of a method of this type with this value -/
def RI (ret : Option FieldType) (ri : Instr) (v : Option Value) : Prop :=
  (ret = none ∧ ri = .return_ ∧ v = none) ∨ (∃ (ty : FieldType) (x : Int32), ret = some ty ∧ ri = .ireturn ∧ v = some (.int x) ∧ narrow ty (.int x) = .int x) ∨ (∃ x : Int64, ret = some .long ∧ ri = .lreturn ∧ v = some (.long x))
/-- THE JUDGEMENT: from pc, with locals L, stack st and heap h, method M comes to a return with 'post' -/
def X (g : GP) (M : Mth) (d nc ns : Nat) (post : Option Value → PH → Prop) (pc : Nat) (L : List (Nat × Value)) (st : List Value) (h : PH) : Prop :=
  ∀ (p : Program) (e : Env) (R : Room) (s : State) (m : MethodId) (args : Array Value) (below : List Frame) (meth : Method) (c : Code) (D : va_G) (dA : Nat → ClassId) (A : Nat → Prop) (Q : State → Prop) (ad : Nat → Nat) (H : Heap) (locs : List Loc) (cells slots : Nat) (ls : Array Slot),
    MC g M d p R s m args meth c D dA A ad → WD D dA A ad h s H locs → cells + nc ≤ R.cells → slots + ns ≤ R.slots → lv_has ls M.2.2.1 (L.map (trL ad)) →
    (∀ (v : Option Value) (h' : PH) (ad' : Nat → Nat) (H' : Heap) (locs' : List Loc) (cells' slots' : Nat) (ls' : Array Slot) (pc' : Nat) (ri : Instr), decode M.2.1 pc' = .ok (ri, 1) → RI M.2.2.2 ri v → post v h' → AG ad ad' h.1.1 h'.1.1 → WD D dA A ad' h' s H' locs' → cells' ≤ R.cells → slots' ≤ R.slots → W p g.1 e R s m args below meth c H' locs' cells' slots' Q (F0 m pc' ls' ((v.map (tr ad')).toList))) →
    W p g.1 e R s m args below meth c H locs cells slots Q (F0 m pc ls (st.map (tr ad)))
