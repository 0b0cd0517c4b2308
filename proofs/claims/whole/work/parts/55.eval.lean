/-! code in a row, a stack, and what a code comes to -/
def sgL (f : Nat → Int32) : Nat → List Int32 → Prop
  | _, [] => True
  | p, a :: l => f p = a ∧ sgL f (p + 1) l
theorem sgL_app {f : Nat → Int32} {l m : List Int32} : ∀ {p : Nat}, sgL f p (l ++ m) ↔ sgL f p l ∧ sgL f (p + l.length) m := by
  induction l with
  | nil => intro p; simp [sgL]
  | cons a l ih =>
    intro p
    simp only [List.cons_append, sgL, List.length_cons]
    rw [ih, show p + 1 + l.length = p + (l.length + 1) by omega, and_assoc]
theorem sgL_congr {f g : Nat → Int32} {l : List Int32} : ∀ {p : Nat}, (∀ j, p ≤ j → j < p + l.length → g j = f j) → sgL f p l → sgL g p l := by
  induction l with
  | nil => intro p _ _; trivial
  | cons a l ih =>
    intro p h hs
    simp only [List.length_cons] at h
    exact ⟨by rw [h p (by omega) (by omega)]; exact hs.1, ih (fun j h1 h2 => h j (by omega) (by omega)) hs.2⟩
def stk (f : Nat → Int32) : List Int32 → Prop
  | [] => True
  | a :: s => f s.length = a ∧ stk f s
theorem stk_congr {f g : Nat → Int32} {s : List Int32} (h : ∀ j, j < s.length → g j = f j) (hs : stk f s) : stk g s := by
  induction s with
  | nil => trivial
  | cons a s ih =>
    simp only [List.length_cons] at h
    exact ⟨by rw [h _ (by omega)]; exact hs.1, ih (fun j hj => h j (by omega)) hs.2⟩
theorem ite_sp {c : Prop} [Decidable c] {x y : Int32} {σ : PS} : (if c then some (x, σ) else some (y, σ)) = some ((if c then x else y), σ) := by
  split <;> rfl
def apC (a0 a1 a2 : Int32) : Int32 := (if a0 = 8 then (a1 &&& a2) else (if a0 = 9 then (a1 ||| a2) else (if a0 = 10 then (a1 ||| a2) else (if a0 = 11 then (a1 ||| a2) else (if a0 = 12 then (a1 ||| a2) else (if a0 = 13 then (a1 ||| a2) else (if a0 = 14 then (a1 ||| a2) else (if a0 = 15 then (a1 ||| a2) else (if a0 = 16 then (a1 ||| a2) else (if a0 = 17 then (a1 ||| a2) else (if a0 = 18 then (a1 + a2) else (if a0 = 19 then (a1 - a2) else (if a0 = 20 then (a1 * a2) else (if a0 = 21 then (if a1 = a2 then 1 else 0) else (if a0 = 22 then (if a1 = a2 then 0 else 1) else (if a0 = 23 then (if a2 ≤ a1 then 0 else 1) else (if a0 = 24 then (if a2 < a1 then 0 else 1) else (a1 ||| a2))))))))))))))))))
theorem apply_eq (o a c : Int32) (σ : PS) : fX5_apply o a c σ = some (apC o a c, σ) := by
  unfold fX5_apply
  simp only [ite_sp]
  rfl
theorem ap7 (a c : Int32) : apC 7 a c = a ||| c := rfl
theorem ap8 (a c : Int32) : apC 8 a c = a &&& c := rfl
theorem ap18 (a c : Int32) : apC 18 a c = a + c := rfl
theorem ap19 (a c : Int32) : apC 19 a c = a - c := rfl
theorem ap20 (a c : Int32) : apC 20 a c = a * c := rfl
theorem ap21 (a c : Int32) : apC 21 a c = if a = c then 1 else 0 := rfl
theorem ap22 (a c : Int32) : apC 22 a c = if a = c then 0 else 1 := rfl
theorem ap23 (a c : Int32) : apC 23 a c = if c ≤ a then 0 else 1 := rfl
theorem ap24 (a c : Int32) : apC 24 a c = if c < a then 0 else 1 := rfl
def psh (x : Int32) : Bool := decide (0 ≤ x) || decide (0 ≤ -x - 9 ∧ -x - 9 ≤ 7)
def evC (v : Nat → Int32) : List Int32 → List Int32 → List Int32
  | [], s => s
  | x :: l, s => if 0 ≤ x then evC v l (x :: s) else if 0 ≤ -x - 9 ∧ -x - 9 ≤ 7 then evC v l (v (-x - 9).toNatClampNeg :: s) else evC v l (st2 (apC (-x)) s)
def dpC : Nat → List Int32 → Prop
  | _, [] => True
  | d, x :: l => if psh x = true then d < 32 ∧ dpC (d + 1) l else 2 ≤ d ∧ d ≤ 32 ∧ dpC (d - 1) l
def enI (q : IT) : Int32 := if q.1 = 0 then q.2 else if q.1 = 1 then -(9 + q.2) else -(nI (16 + q.1))
def wfI (q : IT) : Prop := (q.1 = 0 ∧ isN q.2 0 9999) ∨ (q.1 = 1 ∧ isN q.2 0 7) ∨ (2 ≤ q.1 ∧ q.1 ≤ 4)
theorem wfI_cases {q : IT} (h : wfI q) {P : IT → Prop} (h0 : ∀ k, k ≤ 9999 → P (0, nI k)) (h1 : ∀ k, k < 8 → P (1, nI k)) (h2 : ∀ x, P (2, x)) (h3 : ∀ x, P (3, x)) (h4 : ∀ x, P (4, x)) : P q := by
  obtain ⟨k, x⟩ := q
  rcases h with ⟨a, j, b, c, d⟩ | ⟨a, j, b, c, d⟩ | ⟨a, b⟩
  · simp only at a b
    subst a b
    exact h0 j d
  · simp only at a b
    subst a b
    exact h1 j (by omega)
  · simp only at a b
    have : k = 2 ∨ k = 3 ∨ k = 4 := by omega
    rcases this with rfl | rfl | rfl
    · exact h2 x
    · exact h3 x
    · exact h4 x
theorem neg_var {k : Nat} (hk : k < 8) : -(-(9 + nI k)) - 9 = nI k := by
  rw [Int32.neg_neg, Int32.add_comm, Int32.add_sub_cancel]
theorem var_neg : ∀ k, k < 8 → ¬ (0 : Int32) ≤ -(9 + nI k) := by decide
theorem var_in : ∀ k, k < 8 → (0 : Int32) ≤ nI k ∧ nI k ≤ 7 := by decide
theorem evC_item (v : Nat → Int32) {q : IT} (h : wfI q) (l : List Int32) (s : List Int32) : evC v (enI q :: l) s = evC v l (evI v [q] s) := by
  refine wfI_cases h (P := fun q => evC v (enI q :: l) s = evC v l (evI v [q] s)) ?_ ?_ ?_ ?_ ?_
  · intro k hk
    show evC v (nI k :: l) s = evC v l (evI v [(0, nI k)] s)
    rw [evC, if_pos (nI_pos' (by omega))]
    rfl
  · intro k hk
    show evC v (-(9 + nI k) :: l) s = evC v l (evI v [(1, nI k)] s)
    rw [evC, if_neg (var_neg k hk), neg_var hk, if_pos (var_in k hk)]
    rfl
  · intro x
    show evC v ((-18) :: l) s = evC v l (evI v [(2, x)] s)
    rw [evC, if_neg (by decide), if_neg (by decide)]
    match s with
    | [] => rfl
    | [a] => rfl
    | b :: a :: s => rfl
  · intro x
    show evC v ((-19) :: l) s = evC v l (evI v [(3, x)] s)
    rw [evC, if_neg (by decide), if_neg (by decide)]
    match s with
    | [] => rfl
    | [a] => rfl
    | b :: a :: s => rfl
  · intro x
    show evC v ((-20) :: l) s = evC v l (evI v [(4, x)] s)
    rw [evC, if_neg (by decide), if_neg (by decide)]
    match s with
    | [] => rfl
    | [a] => rfl
    | b :: a :: s => rfl
theorem evI_cons (v : Nat → Int32) (q : IT) (l : List IT) (s : List Int32) : evI v (q :: l) s = evI v l (evI v [q] s) := by
  simp only [evI]
  split
  · rfl
  · split <;> rfl
theorem evC_items (v : Nat → Int32) {l : List IT} (h : ∀ q ∈ l, wfI q) (m : List Int32) : ∀ s, evC v (l.map enI ++ m) s = evC v m (evI v l s) := by
  induction l with
  | nil => intro s; rfl
  | cons q l ih =>
    intro s
    rw [List.map_cons, List.cons_append, evC_item v (h q List.mem_cons_self), ih (fun q hq => h q (List.mem_cons_of_mem _ hq)), ← evI_cons]
/-- the depth: from d, never above M, to d' -/
def dpI (M : Nat) : Nat → List IT → Nat → Prop
  | d, [], d' => d = d'
  | d, q :: l, d' => if q.1 < 2 then d < M ∧ dpI M (d + 1) l d' else 2 ≤ d ∧ dpI M (d - 1) l d'
theorem dpI_app {M : Nat} {l m : List IT} : ∀ {d d' d'' : Nat}, dpI M d l d' → dpI M d' m d'' → dpI M d (l ++ m) d'' := by
  induction l with
  | nil => intro d d' d'' h g; cases h; exact g
  | cons q l ih =>
    intro d d' d'' h g
    simp only [dpI, List.cons_append] at h ⊢
    split
    · rename_i hq
      rw [if_pos hq] at h
      exact ⟨h.1, ih h.2 g⟩
    · rename_i hq
      rw [if_neg hq] at h
      exact ⟨h.1, ih h.2 g⟩
theorem dpI_up {M k : Nat} {l : List IT} : ∀ {d d' : Nat}, dpI M d l d' → dpI (M + k) (d + k) l (d' + k) := by
  induction l with
  | nil => intro d d' h; cases h; rfl
  | cons q l ih =>
    intro d d' h
    simp only [dpI] at h ⊢
    split
    · rename_i hq
      rw [if_pos hq] at h
      have := ih h.2
      rw [show d + 1 + k = d + k + 1 by omega] at this
      exact ⟨by omega, this⟩
    · rename_i hq
      rw [if_neg hq] at h
      have := ih h.2
      rw [show d - 1 + k = d + k - 1 by omega] at this
      exact ⟨by omega, this⟩
theorem evI_dp {M : Nat} (v : Nat → Int32) {l : List IT} : ∀ {t s : List Int32} {d' : Nat}, dpI M t.length l d' → (evI v l t).length = d' ∧ evI v l (t ++ s) = evI v l t ++ s := by
  induction l with
  | nil => intro t s d' h; exact ⟨h, rfl⟩
  | cons q l ih =>
    intro t s d' h
    obtain ⟨k, x⟩ := q
    simp only [dpI] at h
    by_cases hk : k < 2
    · rw [if_pos hk] at h
      have : k = 0 ∨ k = 1 := by omega
      rcases this with rfl | rfl
      · exact ih (t := x :: t) (s := s) h.2
      · exact ih (t := v x.toNatClampNeg :: t) (s := s) h.2
    · rw [if_neg hk] at h
      match t, h with
      | b :: a :: t, h =>
        have h2 := ih (t := opI k a b :: t) (s := s) (d' := d') h.2
        simp only [evI, List.cons_append]
        rw [if_neg (by omega), if_neg (by omega), if_neg (by omega), if_neg (by omega)]
        exact h2
theorem evI_val {M : Nat} (v : Nat → Int32) {l : List IT} (h : dpI M 0 l 1) (s : List Int32) : evI v l s = valS v l :: s := by
  have h1 := evI_dp (t := []) (s := s) v h
  have e : evI v l [] = [valS v l] := by
    unfold valS
    match hh : evI v l [], h1.1 with
    | [a], _ => rfl
  rw [show s = [] ++ s from rfl, h1.2, e]
  rfl
theorem psh_en {q : IT} (h : wfI q) : psh (enI q) = decide (q.1 < 2) := by
  refine wfI_cases h (P := fun q => psh (enI q) = decide (q.1 < 2)) ?_ ?_ (fun x => ?_) (fun x => ?_) (fun x => ?_)
  · intro k hk
    show psh (nI k) = true
    unfold psh
    rw [decide_eq_true (nI_pos' (by omega))]
    rfl
  · intro k hk
    show psh (-(9 + nI k)) = true
    unfold psh
    rw [neg_var hk, decide_eq_true (var_in k hk), Bool.or_true]
  · show psh (-18) = false
    decide
  · show psh (-19) = false
    decide
  · show psh (-20) = false
    decide
theorem dpC_items {M : Nat} (hM : M ≤ 32) {l : List IT} (h : ∀ q ∈ l, wfI q) {m : List Int32} : ∀ {d d' : Nat}, d ≤ 32 → dpI M d l d' → dpC d' m → dpC d (l.map enI ++ m) := by
  induction l with
  | nil => intro d d' _ h g; cases h; exact g
  | cons q l ih =>
    intro d d' hd hq hm
    have ih := @ih (fun q hq => h q (List.mem_cons_of_mem _ hq))
    simp only [dpI] at hq
    simp only [List.map_cons, List.cons_append, dpC]
    rw [psh_en (h q List.mem_cons_self)]
    by_cases hk : q.1 < 2
    · rw [if_pos hk] at hq
      rw [if_pos (decide_eq_true hk)]
      exact ⟨by omega, ih (by omega) hq.2 hm⟩
    · rw [if_neg hk] at hq
      rw [if_neg (by simp [hk])]
      exact ⟨hq.1, hd, ih (by omega) hq.2 hm⟩
/-! conditions -/
def enR (r : RE) : List Int32 := r.2.2.1.map enI ++ (r.2.2.2.map enI ++ [-(nI (21 + r.2.1))])
def ccS : Nat → List RE → List Int32
  | s, [] => if s = 2 then [-7] else []
  | s, r :: l => if s = 0 then enR r ++ ccS 1 l else if r.1 = true then (if s = 2 then [-7] else []) ++ (enR r ++ ccS 2 l) else enR r ++ ((-8) :: ccS s l)
def wfX (l : List IT) : Prop := (∀ q ∈ l, wfI q) ∧ dpI 16 0 l 1
def wfR (r : RE) : Prop := r.2.1 ≤ 3 ∧ wfX r.2.2.1 ∧ wfX r.2.2.2
theorem evC_rel (v : Nat → Int32) {r : RE} (h : wfR r) (m s : List Int32) : evC v (enR r ++ m) s = evC v m (tb (relS v r) :: s) := by
  obtain ⟨o, k, a, b⟩ := r
  obtain ⟨hk, ⟨ha, da⟩, ⟨hb, db⟩⟩ := h
  simp only at hk ha da hb db
  show evC v ((a.map enI ++ (b.map enI ++ [-(nI (21 + k))])) ++ m) s = evC v m (tb (cmpS k (valS v a) (valS v b)) :: s)
  rw [List.append_assoc, evC_items v ha, List.append_assoc, evC_items v hb, evI_val v da, evI_val v db]
  have : k = 0 ∨ k = 1 ∨ k = 2 ∨ k = 3 := by omega
  generalize valS v a = x
  generalize valS v b = y
  rcases this with rfl | rfl | rfl | rfl
  · show evC v ((-21) :: m) (y :: x :: s) = _
    rw [evC, if_neg (by decide), if_neg (by decide)]
    show evC v m (apC 21 x y :: s) = _
    rw [ap21]
    unfold tb cmpS
    by_cases q : x = y <;> simp [q]
  · show evC v ((-22) :: m) (y :: x :: s) = _
    rw [evC, if_neg (by decide), if_neg (by decide)]
    show evC v m (apC 22 x y :: s) = _
    rw [ap22]
    unfold tb cmpS
    by_cases q : x = y <;> simp [q]
  · show evC v ((-23) :: m) (y :: x :: s) = _
    rw [evC, if_neg (by decide), if_neg (by decide)]
    show evC v m (apC 23 x y :: s) = _
    rw [ap23]
    unfold tb cmpS
    by_cases q : x < y
    · rw [if_neg (Int32.not_le.mpr q)]; simp [q]
    · rw [if_pos (Int32.not_lt.mp q)]; simp [q]
  · show evC v ((-24) :: m) (y :: x :: s) = _
    rw [evC, if_neg (by decide), if_neg (by decide)]
    show evC v m (apC 24 x y :: s) = _
    rw [ap24]
    unfold tb cmpS
    by_cases q : x ≤ y
    · rw [if_neg (Int32.not_lt.mpr q)]; simp [q]
    · rw [if_pos (Int32.not_le.mp q)]; simp [q]
theorem tb_and (a b : Bool) : tb (a) &&& tb (b) = tb ((a && b)) := by cases a <;> cases b <;> rfl
theorem tb_or (a b : Bool) : tb (a) ||| tb (b) = tb ((a || b)) := by cases a <;> cases b <;> rfl
theorem evC_and (v : Nat → Int32) (m s : List Int32) (a b : Bool) : evC v ((-8) :: m) (tb (b) :: tb (a) :: s) = evC v m (tb ((a && b)) :: s) := by
  rw [evC, if_neg (by decide), if_neg (by decide)]
  show evC v m (apC 8 _ _ :: s) = _
  rw [ap8, tb_and]
theorem evC_or (v : Nat → Int32) (m s : List Int32) (a b : Bool) : evC v ((-7) :: m) (tb (b) :: tb (a) :: s) = evC v m (tb ((a || b)) :: s) := by
  rw [evC, if_neg (by decide), if_neg (by decide)]
  show evC v m (apC 7 _ _ :: s) = _
  rw [ap7, tb_or]
theorem evC_cc2 (v : Nat → Int32) {l : List RE} (h : ∀ r ∈ l, wfR r) : ∀ (u a : Bool), evC v (ccS 2 l) [tb (a), tb (u)] = [tb ((u || allS v a l))] := by
  induction l with
  | nil =>
    intro u a
    show evC v [-7] _ = _
    rw [evC_or]
    rfl
  | cons r l ih =>
    intro u a
    have ih := ih (fun r hr => h r (List.mem_cons_of_mem _ hr))
    have hr := h r List.mem_cons_self
    rw [ccS, allS, if_neg (by decide)]
    by_cases o : r.1 = true
    · rw [if_pos o, if_pos o, if_pos rfl, List.cons_append, List.nil_append, evC_or, evC_rel v hr, ih]
      cases a <;> simp
    · rw [if_neg o, if_neg o, evC_rel v hr, evC_and, ih]
      cases a <;> simp
theorem evC_cc1 (v : Nat → Int32) {l : List RE} (h : ∀ r ∈ l, wfR r) : ∀ (a : Bool), evC v (ccS 1 l) [tb (a)] = [tb (allS v a l)] := by
  induction l with
  | nil =>
    intro a
    rfl
  | cons r l ih =>
    intro a
    have h' := (fun r hr => h r (List.mem_cons_of_mem _ hr) : ∀ r ∈ l, wfR r)
    have ih := ih h'
    have hr := h r List.mem_cons_self
    rw [ccS, allS, if_neg (by decide)]
    by_cases o : r.1 = true
    · rw [if_pos o, if_pos o, if_neg (by decide), List.nil_append, evC_rel v hr, evC_cc2 v h']
      cases a <;> simp
    · rw [if_neg o, if_neg o, evC_rel v hr, evC_and, ih]
      cases a <;> simp
theorem evC_cc (v : Nat → Int32) {r : RE} {l : List RE} (h : ∀ q ∈ r :: l, wfR q) (ho : r.1 = true) : evC v (ccS 0 (r :: l)) [] = [tb (allS v false (r :: l))] := by
  rw [ccS, allS, if_pos rfl, if_pos ho, if_neg (by decide), evC_rel v (h r List.mem_cons_self), evC_cc1 v (fun q hq => h q (List.mem_cons_of_mem _ hq))]
theorem dpC_rel {r : RE} (h : wfR r) {d : Nat} (hd : d ≤ 4) {m : List Int32} (hm : dpC (d + 1) m) : dpC d (enR r ++ m) := by
  obtain ⟨o, k, a, b⟩ := r
  obtain ⟨hk, ⟨ha, da⟩, ⟨hb, db⟩⟩ := h
  simp only at hk ha da hb db
  show dpC d ((a.map enI ++ (b.map enI ++ [-(nI (21 + k))])) ++ m)
  rw [List.append_assoc, List.append_assoc]
  have da := dpI_up (k := d) da
  have db := dpI_up (k := d + 1) db
  rw [Nat.zero_add] at da db
  refine dpC_items (by omega) ha (by omega) da ?_
  rw [Nat.add_comm 1 d]
  refine dpC_items (by omega) hb (by omega) db ?_
  rw [List.cons_append, List.nil_append, dpC]
  have : k = 0 ∨ k = 1 ∨ k = 2 ∨ k = 3 := by omega
  have e : psh (-(nI (21 + k))) = false := by
    rcases this with rfl | rfl | rfl | rfl <;> rfl
  rw [e, if_neg (by decide)]
  exact ⟨by omega, by omega, by rw [show 1 + (d + 1) - 1 = d + 1 by omega]; exact hm⟩
theorem dpC_o {x : Int32} (hx : psh x = false) {d : Nat} (h1 : 2 ≤ d) (h2 : d ≤ 32) {m : List Int32} (hm : dpC (d - 1) m) : dpC d (x :: m) := by
  rw [dpC, hx, if_neg (by decide)]
  exact ⟨h1, h2, hm⟩
theorem dpC_cc2 {l : List RE} (h : ∀ r ∈ l, wfR r) : dpC 2 (ccS 2 l) := by
  induction l with
  | nil => exact dpC_o rfl (by omega) (by omega) trivial
  | cons r l ih =>
    have ih := ih (fun r hr => h r (List.mem_cons_of_mem _ hr))
    have hr := h r List.mem_cons_self
    rw [ccS, if_neg (by decide)]
    by_cases o : r.1 = true
    · rw [if_pos o, if_pos rfl]
      exact dpC_o rfl (by omega) (by omega) (dpC_rel hr (by omega) ih)
    · rw [if_neg o]
      exact dpC_rel hr (by omega) (dpC_o rfl (by omega) (by omega) ih)
theorem dpC_cc1 {l : List RE} (h : ∀ r ∈ l, wfR r) : dpC 1 (ccS 1 l) := by
  induction l with
  | nil => trivial
  | cons r l ih =>
    have h' := (fun r hr => h r (List.mem_cons_of_mem _ hr) : ∀ r ∈ l, wfR r)
    have ih := ih h'
    have hr := h r List.mem_cons_self
    rw [ccS, if_neg (by decide)]
    by_cases o : r.1 = true
    · rw [if_pos o, if_neg (by decide)]
      exact dpC_rel hr (by omega) (dpC_cc2 h')
    · rw [if_neg o]
      exact dpC_rel hr (by omega) (dpC_o rfl (by omega) (by omega) ih)
theorem dpC_cc {r : RE} {l : List RE} (h : ∀ q ∈ r :: l, wfR q) : dpC 0 (ccS 0 (r :: l)) := by
  rw [ccS, if_pos rfl]
  exact dpC_rel (h r List.mem_cons_self) (by omega) (dpC_cc1 (fun q hq => h q (List.mem_cons_of_mem _ hq)))
