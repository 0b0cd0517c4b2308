/-! what waits, and what has been written -/
def ccP : Nat → List RE → List Int32
  | _, [] => []
  | s, r :: l => if s = 0 then enR r ++ ccP 1 l else if r.1 = true then (if s = 2 then [-7] else []) ++ (enR r ++ ccP 2 l) else enR r ++ ((-8) :: ccP s l)
def enS : Nat → List RE → Nat
  | s, [] => s
  | s, r :: l => if s = 0 then enS 1 l else if r.1 = true then enS 2 l else enS s l
theorem ccS_P : ∀ (l : List RE) (s : Nat), ccS s l = ccP s l ++ (if enS s l = 2 then [-7] else []) := by
  intro l
  induction l with
  | nil => intro s; rfl
  | cons r l ih =>
    intro s
    rw [ccS, ccP, enS]
    by_cases h0 : s = 0
    · rw [if_pos h0, if_pos h0, if_pos h0, ih, List.append_assoc]
    · rw [if_neg h0, if_neg h0, if_neg h0]
      by_cases hr : r.1 = true
      · rw [if_pos hr, if_pos hr, if_pos hr, ih, List.append_assoc, List.append_assoc]
      · rw [if_neg hr, if_neg hr, if_neg hr, ih, List.append_assoc, List.cons_append]
theorem enS_snoc (r : RE) : ∀ (l : List RE) (s : Nat), enS s (l ++ [r]) = if enS s l = 0 then 1 else if r.1 = true then 2 else enS s l := by
  intro l
  induction l with
  | nil => intro s; rfl
  | cons x l ih =>
    intro s
    rw [List.cons_append, enS, enS]
    by_cases h0 : s = 0
    · rw [if_pos h0, if_pos h0, ih]
    · rw [if_neg h0, if_neg h0]
      by_cases hr : x.1 = true
      · rw [if_pos hr, if_pos hr, ih]
      · rw [if_neg hr, if_neg hr, ih]
theorem ccP_snoc (r : RE) : ∀ (l : List RE) (s : Nat), ccP s (l ++ [r]) = ccP s l ++ (if enS s l = 0 then enR r else if r.1 = true then (if enS s l = 2 then [-7] else []) ++ enR r else enR r ++ [-8]) := by
  intro l
  induction l with
  | nil =>
    intro s
    show (if s = 0 then enR r ++ [] else if r.1 = true then (if s = 2 then [-7] else []) ++ (enR r ++ []) else enR r ++ ((-8) :: [])) = [] ++ (if s = 0 then enR r else if r.1 = true then (if s = 2 then [-7] else []) ++ enR r else enR r ++ [-8])
    rw [List.append_nil, List.nil_append]
  | cons x l ih =>
    intro s
    rw [List.cons_append, enS, ccP, ccP]
    by_cases h0 : s = 0
    · rw [if_pos h0, if_pos h0, if_pos h0, ih, List.append_assoc]
    · rw [if_neg h0, if_neg h0, if_neg h0]
      by_cases hr : x.1 = true
      · rw [if_pos hr, if_pos hr, if_pos hr, ih, List.append_assoc, List.append_assoc]
      · rw [if_neg hr, if_neg hr, if_neg hr, ih, List.append_assoc, List.cons_append]
theorem enS_0 : ∀ (l : List RE) (s : Nat), s ≠ 0 → enS s l ≠ 0 := by
  intro l
  induction l with
  | nil => intro s h; exact h
  | cons x l ih =>
    intro s h
    simp only [enS]
    rw [if_neg h]
    split
    · exact ih 2 (by decide)
    · exact ih s h
theorem enS_nil {l : List RE} : enS 0 l = 0 ↔ l = [] := by
  cases l with
  | nil => exact ⟨fun _ => rfl, fun _ => rfl⟩
  | cons x l =>
    refine ⟨fun h => ?_, fun h => by cases h⟩
    simp only [enS] at h
    rw [if_pos trivial] at h
    exact absurd h (enS_0 l 1 (by decide))
/-- before a relation: what is written, what waits -/
def preC (re : List RE) (cn : Bool) : List Int32 := ccP 0 re ++ (if cn = true ∧ enS 0 re = 2 then [-7] else [])
def bwS (re : List RE) (cn : Bool) : List Nat := if re = [] then [] else if cn = true then [7] else 8 :: (if enS 0 re = 2 then [7] else [])
def crk (k : Nat) : Nat := if k = 8 then 2 else if k = 18 ∨ k = 19 then 4 else if k = 20 then 5 else if 21 ≤ k ∧ k ≤ 24 then 3 else if k = 25 then 0 else 1
theorem crk_le (k : Nat) : crk k ≤ 5 := by
  unfold crk
  (repeat' split) <;> omega
def relE (r : Nat) : List Nat → List Int32
  | [] => []
  | k :: w => if crk k < r then [] else -(nI k) :: relE r w
def relR (r : Nat) : List Nat → List Nat
  | [] => []
  | k :: w => if crk k < r then k :: w else relR r w
theorem rel_len (r : Nat) : ∀ w : List Nat, (relR r w).length + (relE r w).length = w.length := by
  intro w
  induction w with
  | nil => rfl
  | cons k w ih =>
    simp only [relR, relE]
    split
    · simp
    · simp only [List.length_cons]; omega
theorem rank_eq (k : Nat) (hk : k ≤ 26) (σ : PS) : fX4_rank (nI k) σ = some (nI (crk k), σ) := by
  have h : ∀ k, k ≤ 26 → (if nI k = 8 then (2 : Int32) else (if nI k = 9 then 1 else (if nI k = 10 then 1 else (if nI k = 11 then 1 else (if nI k = 12 then 1 else (if nI k = 13 then 1 else (if nI k = 14 then 1 else (if nI k = 15 then 1 else (if nI k = 16 then 1 else (if nI k = 17 then 1 else (if nI k = 18 then 4 else (if nI k = 19 then 4 else (if nI k = 20 then 5 else (if nI k = 21 then 3 else (if nI k = 22 then 3 else (if nI k = 23 then 3 else (if nI k = 24 then 3 else (if nI k = 25 then 0 else 1)))))))))))))))))) = nI (crk k) := by decide +kernel
  unfold fX4_rank
  simp only [ite_sp]
  rw [h k hk]
/-- what a release changes -/
def frW (b : Nat) (σ τ : PS) : Prop := (∀ k j, k ≠ b + 6 → (k = b → j ≠ 8) → (k = 38 → j ≠ 2) → gi τ k j = gi σ k j) ∧ bkO τ = bkO σ ∧ drO τ = drO σ
theorem frW.rf {b : Nat} {σ : PS} : frW b σ σ := ⟨fun _ _ _ _ _ => rfl, rfl, rfl⟩
theorem frW.tr {b : Nat} {σ τ υ : PS} (h : frW b σ τ) (g : frW b τ υ) : frW b σ υ := ⟨fun k j a c d => (g.1 k j a c d).trans (h.1 k j a c d), g.2.1.trans h.2.1, g.2.2.trans h.2.2⟩
theorem write_eq {b c : Nat} {σ : PS} (x : Int32) (hc : c < 400) (h : gi σ b 8 = nI c) : fX5_write b x σ = some (sI (sI σ (b + 6) c x) b 8 (nI (c + 1))) := by
  unfold fX5_write
  rw [h, if_neg (l_nle (k := 400) (by rfl) hc (by decide)), gd_t (inb_nI hc (by decide)), nI_clamp (by omega), gi_ne (by omega), h, nI_1]
theorem release_ok {b : Nat} (hb : b = 116 ∨ b = 124) (r : Nat) (hr : 1 ≤ r) (hr5 : r ≤ 5) : ∀ (W : List Nat) (m c : Nat) (σ : PS), (∀ k ∈ W, k ≤ 26) → W.length ≤ 32 → c + W.length ≤ 400 → gi σ 38 2 = nI W.length → stk (gi σ 39) (W.map nI) → gi σ b 8 = nI c → hO (fX4_release_0 b (m + W.length + 1) (nI r) σ) (fun τ => frW b σ τ ∧ gi τ 38 2 = nI (relR r W).length ∧ gi τ b 8 = nI (c + (relE r W).length) ∧ sgL (gi τ (b + 6)) c (relE r W) ∧ ∀ j, j < c → gi τ (b + 6) j = gi σ (b + 6) j) := by
  intro W
  induction W with
  | nil =>
    intro m c σ hW hl hc h2 h9 h8
    rw [fX4_release_0, h2, if_pos (show nI ([] : List Nat).length ≤ 0 by decide)]
    exact ⟨σ, rfl, frW.rf, h2, by rw [h8]; rfl, trivial, fun _ _ => rfl⟩
  | cons k W ih =>
    intro m c σ hW hl hc h2 h9 h8
    simp only [List.length_cons] at hl hc h2
    simp only [List.map_cons, stk, List.length_map] at h9
    have hk := hW k (List.mem_cons_self ..)
    rw [show m + (k :: W).length + 1 = (m + W.length + 1) + 1 by simp only [List.length_cons]; omega, fX4_release_0, h2, if_neg (r_nle (k := 0) (by rfl) (by omega) (by omega)), if_neg (l_nlt (k := 32) (by rfl) (by omega) (by decide)), show nI (W.length + 1) - 1 = nI W.length from nI_pred _, gd_t (inb_nI (by omega) (by decide)), nI_clamp (by omega), h9.1, rank_eq k hk]
    simp only [Option.bind_some]
    simp only [relR, relE]
    by_cases hrk : crk k < r
    · rw [if_pos (nI_lt hrk (by omega)), if_pos hrk, if_pos hrk]
      exact ⟨σ, rfl, frW.rf, by rw [h2]; rfl, by rw [h8]; rfl, trivial, fun _ _ => rfl⟩
    · rw [if_neg (nI_nlt (by omega) (by have := crk_le k; omega)), if_neg hrk, if_neg hrk]
      rw [h2, show nI (W.length + 1) - 1 = nI W.length from nI_pred _, gi_eq, gd_t (inb_nI (by omega) (by decide)), nI_clamp (by omega), gi_ne (by decide), h9.1, write_eq (c := c) _ (by omega) (by rw [gi_ne (by omega)]; exact h8)]
      simp only [Option.bind_some]
      refine (ih m (c + 1) _ (fun x hx => hW x (List.mem_cons_of_mem _ hx)) (by omega) (by omega) ?_ ?_ gi_eq).mono (fun τ ⟨t1, t2, t3, t4, t5⟩ => ?_)
      · rw [gi_ne (by omega), gi_ne (by omega), gi_eq]
      · refine stk_congr (fun j hj => ?_) h9.2
        rw [gi_ne (by omega), gi_ne (by omega), gi_ne (by decide)]
      · refine ⟨⟨fun a j z1 z2 z3 => ?_, t1.2.1, t1.2.2⟩, t2, ?_, ⟨?_, t4⟩, fun j hj => ?_⟩
        · rw [t1.1 a j z1 z2 z3]
          by_cases e1 : a = b
          · subst e1; rw [gi_nj (z2 rfl), gi_ne (by omega), gi_ne (by omega)]
          · rw [gi_ne e1, gi_ne z1]
            by_cases e2 : a = 38
            · subst e2; rw [gi_nj (z3 rfl)]
            · rw [gi_ne e2]
        · rw [t3]; simp only [List.length_cons]; rw [show c + 1 + (relE r W).length = c + ((relE r W).length + 1) by omega]
        · rw [t5 c (by omega), gi_ne (by omega), gi_eq]
        · rw [t5 j (by omega), gi_ne (by omega), gi_nj (by omega), gi_ne (by omega)]
