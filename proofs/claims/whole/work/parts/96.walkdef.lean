/-! where a reading stands: ((awaited, part), (rules, wrong), (sort, lord, value), (relations, connective, sign, left), items, waiting) -/
abbrev QS : Type := (Nat × Nat) × (List RU × Int32) × (Nat × Int32 × List IT) × (List RE × Bool × Nat × List IT) × List IT × List Nat
def mayS (A : QS) (k : Nat) : Bool := if A.1.1 = 0 then decide (k = 0 ∨ (3 ≤ k ∧ k ≤ 5)) else if A.1.1 = 1 then decide (k = 2) else if A.1.1 = 2 then decide (k = 6) else if A.1.1 = 3 then decide (k = 2 ∨ k = 25 ∨ (9 ≤ k ∧ k ≤ 16)) else if 18 ≤ k ∧ k ≤ 20 then true else if opnW A.2.2.2.2.2 = 0 then (if A.1.2 = 1 then decide (21 ≤ k ∧ k ≤ 24) else if A.1.2 = 2 then decide (k = 8 ∨ k = 7 ∨ k = 17) else decide (k = 6 ∨ k = 17)) else decide (k = 26)
def tooS (A : QS) (k : Nat) : Bool := if A.1.1 = 0 then decide (20 ≤ A.2.1.1.length) else decide (k = 25 ∧ 6 ≤ opnW A.2.2.2.2.2)
def takS (A : QS) (k : Nat) (v : Int32) (p : Nat) : QS := match A with
  | ((aw, pt), (rs, wr), (so, lo, va), (re, cn, op, le), it, wt) =>
    if aw = 0 then ((if k = 3 then 3 else 1, 0), (rs, wr), (k - 3, 0, []), ([], true, 0, []), [], [])
    else if aw = 1 then ((if so = 2 then 2 else 3, pt), (rs, if 0 ≤ v ∧ v ≤ 4 then wr else if wr = -1 then nI p else wr), (so, v, va), (re, cn, op, le), it, wt)
    else if aw = 2 then ((3, 1), (rs, wr), (so, lo, it), ([], true, 0, []), [], [])
    else if aw = 3 then (if k = 25 then ((3, pt), (rs, wr), (so, lo, va), (re, cn, op, le), it, 25 :: wt) else if k = 2 then ((4, pt), (rs, wr), (so, lo, va), (re, cn, op, le), it ++ [(0, v)], wt) else ((4, pt), (rs, wr), (so, lo, va), (re, cn, op, le), it ++ [(1, nI (k - 9))], wt))
    else if 18 ≤ k ∧ k ≤ 20 then ((3, pt), (rs, wr), (so, lo, va), (re, cn, op, le), it ++ rlE (rkW k) wt, k :: rlR (rkW k) wt)
    else if k = 26 then ((4, pt), (rs, wr), (so, lo, va), (re, cn, op, le), it ++ rlE 1 wt, (rlR 1 wt).tail)
    else if k = 6 then ((3, 1), (rs, wr), (so, lo, it ++ rlE 1 wt), ([], true, 0, []), [], [])
    else if k = 17 then ((0, 0), (rs ++ [if pt = 0 then (so, lo, it ++ rlE 1 wt, []) else (so, lo, va, re ++ [(cn, op, le, it ++ rlE 1 wt)])], wr), (0, 0, []), ([], true, 0, []), [], [])
    else if k = 7 ∨ k = 8 then ((3, 1), (rs, wr), (so, lo, va), (re ++ [(cn, op, le, it ++ rlE 1 wt)], decide (k = 7), 0, []), [], [])
    else ((3, 2), (rs, wr), (so, lo, va), (re, cn, k - 21, it ++ rlE 1 wt), [], [])
abbrev FQ : Type := Nat × Nat × List RU × Int32
def finQ (K P : Nat → Nat) (V : Nat → Int32) : Nat → Nat → QS → FQ
  | 0, t, _ => (2, P t, [], -1)
  | r + 1, t, A => if mayS A (K t) = true then (if K t = 0 then (0, 0, A.2.1.1, A.2.1.2) else if t = 400 ∨ tooS A (K t) = true then (2, P t, [], -1) else finQ K P V r (t + 1) (takS A (K t) (V t) (P t))) else (1, P t, [], -1)
def finR (K P : Nat → Nat) (V : Nat → Int32) (t : Nat) (A : QS) : FQ := finQ K P V (401 - t) t A
theorem fin_no {K P : Nat → Nat} {V : Nat → Int32} {t : Nat} {A : QS} (ht : t ≤ 400) (h : ¬ mayS A (K t) = true) : finR K P V t A = (1, P t, [], -1) := by
  unfold finR
  rw [show 401 - t = (400 - t) + 1 by omega, finQ, if_neg h]
theorem fin_end {K P : Nat → Nat} {V : Nat → Int32} {t : Nat} {A : QS} (ht : t ≤ 400) (h : mayS A (K t) = true) (h0 : K t = 0) : finR K P V t A = (0, 0, A.2.1.1, A.2.1.2) := by
  unfold finR
  rw [show 401 - t = (400 - t) + 1 by omega, finQ, if_pos h, if_pos h0]
theorem fin_too {K P : Nat → Nat} {V : Nat → Int32} {t : Nat} {A : QS} (ht : t ≤ 400) (h : mayS A (K t) = true) (h0 : K t ≠ 0) (h2 : t = 400 ∨ tooS A (K t) = true) : finR K P V t A = (2, P t, [], -1) := by
  unfold finR
  rw [show 401 - t = (400 - t) + 1 by omega, finQ, if_pos h, if_neg h0, if_pos h2]
theorem fin_go {K P : Nat → Nat} {V : Nat → Int32} {t : Nat} {A : QS} (ht : t < 400) (h : mayS A (K t) = true) (h0 : K t ≠ 0) (h2 : ¬ tooS A (K t) = true) : finR K P V t A = finR K P V (t + 1) (takS A (K t) (V t) (P t)) := by
  unfold finR
  rw [show 401 - t = (401 - (t + 1)) + 1 by omega, finQ, if_pos h, if_neg h0, if_neg (by rintro (z | z); omega; exact h2 z)]
/-- what always holds of where it stands -/
def wfQ : QS → Prop
  | ((aw, pt), (rs, _), (so, lo, va), (re, cn, op, le), it, wt) => (rs.length ≤ 20 ∧ (1 ≤ aw → rs.length < 20) ∧ (∀ r ∈ rs, wfU r) ∧ ∀ r ∈ rs, r.1 = 0 → r.2.1 = 0) ∧ aw ≤ 4 ∧ pt ≤ 2 ∧ so ≤ 2 ∧ (so = 0 → lo = 0) ∧ (∀ q ∈ it, wfI q) ∧ dpI 16 0 it (opsW wt + (if aw = 4 then 1 else 0)) ∧ okW 3 wt ∧ opnW wt ≤ 6 ∧ (aw ≤ 2 → pt = 0 ∧ it = [] ∧ wt = []) ∧ (aw = 1 → 1 ≤ so) ∧ (aw = 2 → so = 2) ∧ (3 ≤ aw → pt = 0 → so < 2) ∧ (1 ≤ pt → so < 2 → wfX va) ∧ (∀ q ∈ re, wfR q) ∧ (re = [] → cn = true) ∧ (∀ h u, re = h :: u → h.1 = true) ∧ (pt = 2 → op ≤ 3 ∧ wfX le) ∧ (pt = 0 → re = [])
theorem dp_snoc {M d e : Nat} {l : List IT} {q : IT} (h : dpI M 0 l d) (hq : dpI M d [q] e) : dpI M 0 (l ++ [q]) e := dpI_app h hq
theorem it_rl {it : List IT} {wt : List Nat} {r : Nat} (h1 : ∀ q ∈ it, wfI q) (h2 : dpI 16 0 it (opsW wt + 1)) (h3 : okW 3 wt) (hr : 1 ≤ r) : (∀ q ∈ it ++ rlE r wt, wfI q) ∧ dpI 16 0 (it ++ rlE r wt) (opsW (rlR r wt) + 1) := by
  refine ⟨fun q hq => ?_, ?_⟩
  · rcases List.mem_append.mp hq with hq | hq
    · exact h1 q hq
    · exact rl_wf h3 q hq
  · have h4 := (rl_ok h3 hr).2.2
    have h5 := rl_dp (M := 16) (r := r) (d := opsW wt + 1) (by omega) (Or.inl h3)
    rw [show opsW wt + 1 - (rlE r wt).length = opsW (rlR r wt) + 1 by omega] at h5
    exact dpI_app h2 h5
theorem it_x {it : List IT} {wt : List Nat} (h1 : ∀ q ∈ it, wfI q) (h2 : dpI 16 0 it (opsW wt + 1)) (h3 : okW 3 wt) (h4 : opnW wt = 0) : wfX (it ++ rlE 1 wt) := by
  obtain ⟨a, b⟩ := it_rl h1 h2 h3 (r := 1) (by omega)
  rw [rl_0 h4] at b
  exact ⟨a, b⟩
theorem it_nil {l : List IT} (h : l = []) : (∀ q ∈ l, wfI q) ∧ dpI 16 0 l 0 := by
  subst h
  exact ⟨fun q hq => (by cases hq), rfl⟩
