theorem e_ne {x : Int32} {k n : Nat} (hx : x = nI k) (h : ¬ n = k) (hn : n < 2 ^ 31) (hk : k < 2 ^ 31) : ¬ nI n = x := by
  subst hx
  exact fun z => h (nIeq_lit z hn hk)
/-! which token may follow, and which is too much -/
def mfU (a4 a5 a1 : Int32) : Int32 := if tv (18 ≤ a1 ∧ a1 ≤ 20) = 0 then (if a5 ≤ 0 then (if a4 = 1 then tv (21 ≤ a1 ∧ a1 ≤ 24) else (if a4 = 2 then (if a1 = 8 then 1 else (if a1 = 7 then 1 else (if a1 = 17 then 1 else 0))) else (if a1 = 6 then 1 else (if a1 = 17 then 1 else 0)))) else (if a1 = 26 then 1 else 0)) else 1
def mayC (a3 a4 a5 a1 : Int32) : Int32 := if a3 = 0 then (if a1 = 0 then 1 else (if tv (3 ≤ a1 ∧ a1 ≤ 5) = 0 then 0 else 1)) else (if a3 = 1 then (if a1 = 2 then 1 else 0) else (if a3 = 2 then (if a1 = 6 then 1 else 0) else (if a3 = 3 then (if a1 = 2 then 1 else (if a1 = 25 then 1 else (if tv (9 ≤ a1 ∧ a1 ≤ 16) = 0 then 0 else 1))) else mfU a4 a5 a1)))
def mayN (aw pt o k : Nat) : Bool := if aw = 0 then decide (k = 0 ∨ (3 ≤ k ∧ k ≤ 5)) else if aw = 1 then decide (k = 2) else if aw = 2 then decide (k = 6) else if aw = 3 then decide (k = 2 ∨ k = 25 ∨ (9 ≤ k ∧ k ≤ 16)) else if 18 ≤ k ∧ k ≤ 20 then true else if o = 0 then (if pt = 1 then decide (21 ≤ k ∧ k ≤ 24) else if pt = 2 then decide (k = 8 ∨ k = 7 ∨ k = 17) else decide (k = 6 ∨ k = 17)) else decide (k = 26)
theorem mfU_01 (a4 a5 a1 : Int32) : is01 (mfU a4 a5 a1) = true := by
  unfold mfU
  (repeat' split) <;> first | rfl | exact is01_tv
theorem mayU_eq (a1 : Int32) (σ : PS) : fX4_mayFollowUnit a1 σ = some (mfU (gi σ 38 4) (gi σ 38 5) a1, σ) := by
  unfold fX4_mayFollowUnit
  rw [isWithin_eq]
  simp only [Option.bind_some]
  rw [isWithin_eq]
  simp only [Option.bind_some]
  rw [gd_t is01_tv]
  simp only [ite_sp]
  rfl
theorem may_pure (a1 : Int32) (σ : PS) : fX4_mayFollow a1 σ = some (mayC (gi σ 38 3) (gi σ 38 4) (gi σ 38 5) a1, σ) := by
  unfold fX4_mayFollow
  rw [isWithin_eq, isWithin_eq, mayU_eq]
  simp only [Option.bind_some]
  rw [gd_t (mfU_01 _ _ _)]
  simp only [ite_sp]
  rfl
theorem may_fin : ∀ aw, aw < 5 → ∀ pt, pt < 3 → ∀ o, o < 7 → ∀ k, k < 27 → mayC (nI aw) (nI pt) (nI o) (nI k) = tb (mayN aw pt o k) := by decide +kernel
theorem may_eq {b t : Nat} {A : QS} {σ : PS} {k : Nat} (h : CQ b t A σ) (hw : wfQ A) (hk : k ≤ 26) : fX4_mayFollow (nI k) σ = some (tb (mayS A k), σ) := by
  obtain ⟨⟨aw, pt⟩, ⟨rs, wr⟩, ⟨so, lo, va⟩, ⟨re, cn, op, le⟩, it, wt⟩ := A
  obtain ⟨⟨r1, r0, r2, r3⟩, a1, a2, a3, a4, a5, a6, a7, a8, a9, b1, b2, b3, b4, b5, b6, b7, b8, b9⟩ := hw
  obtain ⟨c, h⟩ := h
  rw [may_pure, h.1, h.2.2.1]
  have e : mayS ((aw, pt), (rs, wr), (so, lo, va), (re, cn, op, le), it, wt) k = mayN aw pt (opnW wt) k := rfl
  rw [e, ← may_fin aw (by omega) pt (by omega) (opnW wt) (by omega) k (by omega)]
  by_cases h0 : aw = 0
  · subst h0; rfl
  · rw [h.2.1 h0]
theorem too_eq {b t : Nat} {A : QS} {σ : PS} {k : Nat} (h : CQ b t A σ) (hw : wfQ A) (hk : k ≤ 26) (t3 : gi σ 40 3 = nI k) : fX4_isTooMuch b σ = some (tb (tooS A k), σ) := by
  obtain ⟨⟨aw, pt⟩, ⟨rs, wr⟩, ⟨so, lo, va⟩, ⟨re, cn, op, le⟩, it, wt⟩ := A
  obtain ⟨⟨r1, r0, r2, r3⟩, a1, a2, a3, a4, a5, a6, a7, a8, a9, b1, b2, b3, b4, b5, b6, b7, b8, b9⟩ := hw
  obtain ⟨c, h⟩ := h
  unfold fX4_isTooMuch
  rw [h.1, h.2.2.1, h.2.2.2.2.2.2.2.1, t3]
  have e : tooS ((aw, pt), (rs, wr), (so, lo, va), (re, cn, op, le), it, wt) k = if aw = 0 then decide (20 ≤ rs.length) else decide (k = 25 ∧ 6 ≤ opnW wt) := rfl
  rw [e]
  by_cases h0 : aw = 0
  · subst h0
    rw [if_pos (show nI 0 = 0 from rfl), if_pos rfl]
    by_cases hr : 20 ≤ rs.length
    · rw [if_neg (r_nlt (k := 20) (by rfl) hr (by omega)), decide_eq_true hr]; rfl
    · rw [if_pos (r_lt (k := 20) (by rfl) (by omega) (by decide)), decide_eq_false hr]; rfl
  · rw [if_neg (e_ne (k := 0) (by rfl) h0 (by omega) (by decide)), if_neg h0]
    by_cases hk25 : k = 25
    · rw [if_pos (by rw [hk25]; rfl)]
      by_cases ho : 6 ≤ opnW wt
      · rw [if_neg (r_nlt (k := 6) (by rfl) ho (by omega)), decide_eq_true ⟨hk25, ho⟩]; rfl
      · rw [if_pos (r_lt (k := 6) (by rfl) (by omega) (by decide)), decide_eq_false (fun z => ho z.2)]; rfl
    · rw [if_neg (e_ne (k := 25) (by rfl) hk25 (by omega) (by decide)), decide_eq_false (fun z => hk25 z.1)]; rfl
theorem CK.cast {b t aw pt o c so o' : Nat} {wr lo x x' : Int32} {W W' : List Nat} {rs : List RU} {C C' : List Int32} {σ : PS} (h : CK b t aw pt o wr W rs c C so lo x σ) (ho : o = o') (hW : W = W') (hC : C = C') (hx : x = x') : CK b t aw pt o' wr W' rs c C' so lo x' σ := by
  subst ho hW hC hx
  exact h
theorem CK.pop {b t aw pt o c so k : Nat} {wr lo x : Int32} {W : List Nat} {rs : List RU} {C : List Int32} {σ : PS} (hb : b = 116 ∨ b = 124) (h : CK b t aw pt o wr (k :: W) rs c C so lo x σ) : CK b t aw pt o wr W rs c C so lo x (sI σ 38 2 (nI W.length)) := by
  obtain ⟨a1, a2, a3, a4, a5, a6, a7, a8, a9, b1, b2, b3, b4⟩ := h
  have g38 : ∀ j, j ≠ 2 → gi (sI σ 38 2 (nI W.length)) 38 j = gi σ 38 j := fun j q => gi_nj q
  have g : ∀ a j, a ≠ 38 → gi (sI σ 38 2 (nI W.length)) a j = gi σ a j := fun a j q => gi_ne q
  refine ⟨by rw [g38 _ (by decide)]; exact a1, fun z => by rw [g38 _ (by decide)]; exact a2 z, by rw [g38 _ (by decide)]; exact a3, by rw [g38 _ (by decide)]; exact a4, by rw [g38 _ (by decide)]; exact a5, by rw [g38 _ (by decide)]; exact a6, ⟨gi_eq, stk_congr (fun j _ => g _ _ (by decide)) a7.2.2⟩, by rw [g _ _ (by omega)]; exact a8, bkP_fr (fun j q => g _ _ (by omega)) (Nat.le_refl _) (fun i i1 i2 j _ => g _ _ (by omega)) a9, by rw [g _ _ (by omega)]; exact b1, ?_, sgL_congr (fun j _ _ => g _ _ (by omega)) b3, fun z => ?_⟩
  · simp only [List.length_cons] at b2; omega
  · rw [g _ _ (by omega), g _ _ (by omega), g _ _ (by omega), g _ _ (by omega)]
    exact b4 z
theorem okW_le : ∀ {w : List Nat} {r : Nat}, okW r w → ∀ k ∈ w, k ≤ 26 := by
  intro w
  induction w with
  | nil => intro r _ k hk; cases hk
  | cons x w ih =>
    intro r h k hk
    simp only [okW] at h
    by_cases hx : x = 25
    · rw [if_pos hx] at h
      rcases List.mem_cons.mp hk with rfl | hk
      · omega
      · exact ih h k hk
    · rw [if_neg hx] at h
      rcases List.mem_cons.mp hk with rfl | hk
      · omega
      · exact ih h.2.2 k hk
theorem clW_bd {pt op : Nat} {re : List RE} {cn : Bool} {wt : List Nat} (h : okW 3 wt) (ho : opnW wt ≤ 6) (hp : pt = 2 → op ≤ 3) : (wt ++ ((if pt = 2 then [21 + op] else []) ++ (if pt = 0 then [] else bwS re cn))).length < 32 ∧ ∀ k ∈ wt ++ ((if pt = 2 then [21 + op] else []) ++ (if pt = 0 then [] else bwS re cn)), k ≤ 26 := by
  have h1 := okW_bd (by decide) h
  have h2 := len_W wt
  have h3 : (if pt = 2 then [21 + op] else []).length ≤ 1 ∧ ∀ k ∈ (if pt = 2 then [21 + op] else []), k ≤ 26 := by
    by_cases z : pt = 2
    · have := hp z
      rw [if_pos z]
      exact ⟨by simp, fun k hk => by rw [List.mem_singleton.mp hk]; omega⟩
    · rw [if_neg z]; exact ⟨by simp, fun k hk => (by cases hk)⟩
  have h4 : (if pt = 0 then [] else bwS re cn).length ≤ 2 ∧ ∀ k ∈ (if pt = 0 then [] else bwS re cn), k ≤ 26 := by
    by_cases z : pt = 0
    · rw [if_pos z]; exact ⟨by simp, fun k hk => (by cases hk)⟩
    · rw [if_neg z]
      rcases bw_cases (re := re) (cn := cn) with e | e | e | e <;> rw [e] <;> simp
  refine ⟨?_, fun k hk => ?_⟩
  · rw [List.length_append, List.length_append]; omega
  · rcases List.mem_append.mp hk with hk | hk
    · exact okW_le h k hk
    · rcases List.mem_append.mp hk with hk | hk
      · exact h3.2 k hk
      · exact h4.2 k hk
theorem pre_nil : preC [] true = [] := rfl
theorem bw_nil : bwS [] true = [] := rfl
theorem low_x {pt op r : Nat} {re : List RE} {cn : Bool} (hr : 4 ≤ r) (hp : pt = 2 → op ≤ 3) : relE r ((if pt = 2 then [21 + op] else []) ++ (if pt = 0 then [] else bwS re cn)) = [] ∧ relR r ((if pt = 2 then [21 + op] else []) ++ (if pt = 0 then [] else bwS re cn)) = (if pt = 2 then [21 + op] else []) ++ (if pt = 0 then [] else bwS re cn) := by
  by_cases h2 : pt = 2
  · rw [if_pos h2, if_neg (by omega), List.singleton_append]
    have : crk (21 + op) < r := by rw [crk_op (hp h2)]; omega
    simp only [relE, relR]
    rw [if_pos this, if_pos this]
    exact ⟨rfl, rfl⟩
  · rw [if_neg h2, List.nil_append]
    by_cases h0 : pt = 0
    · rw [if_pos h0]; exact ⟨rfl, rfl⟩
    · rw [if_neg h0]; exact bw_low (by omega)
