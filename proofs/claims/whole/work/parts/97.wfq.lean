/-! every step keeps it -/
theorem wfQ_take {A : QS} {k p : Nat} {v : Int32} (h : wfQ A) (hm : mayS A k = true) (h0 : k ≠ 0) (ht : ¬ tooS A k = true) (hv : k = 2 → isN v 0 9999) : wfQ (takS A k v p) := by
  obtain ⟨⟨aw, pt⟩, ⟨rs, wr⟩, ⟨so, lo, va⟩, ⟨re, cn, op, le⟩, it, wt⟩ := A
  obtain ⟨⟨r1, r0, r2, r3⟩, a1, a2, a3, a4, a5, a6, a7, a8, a9, b1, b2, b3, b4, b5, b6, b7, b8, b9⟩ := h
  simp only [mayS] at hm
  simp only [tooS] at ht
  unfold takS
  by_cases w0 : aw = 0
  · rw [if_pos w0] at hm ht
    simp only [if_pos w0]
    have hk := of_decide_eq_true hm
    have r0' : rs.length < 20 := by
      by_cases z : 20 ≤ rs.length
      · exact absurd (decide_eq_true z) ht
      · omega
    refine ⟨⟨r1, fun _ => r0', r2, r3⟩, ?_, by omega, by omega, fun _ => rfl, fun q hq => (by cases hq), ?_, trivial, by simp [opnW], ?_, ?_, ?_, ?_, by omega, fun q hq => (by cases hq), fun _ => rfl, fun h u z => (by cases z), by omega, fun _ => rfl⟩
    · split <;> omega
    · rw [if_neg (by split <;> omega)]; rfl
    · intro _; exact ⟨rfl, rfl, rfl⟩
    · intro z
      by_cases k3 : k = 3
      · rw [if_pos k3] at z; cases z
      · omega
    · intro z; split at z <;> cases z
    · intro z _
      by_cases k3 : k = 3
      · omega
      · rw [if_neg k3] at z; omega
  rw [if_neg w0] at hm ht
  simp only [if_neg w0]
  have r0' := r0 (by omega)
  have ht' : ¬ (k = 25 ∧ 6 ≤ opnW wt) := fun z => ht (decide_eq_true z)
  by_cases w1 : aw = 1
  · rw [if_pos w1] at hm
    simp only [if_pos w1]
    have hk := of_decide_eq_true hm
    obtain ⟨c1, c2, c3⟩ := a9 (by omega)
    subst c2 c3
    refine ⟨⟨r1, fun _ => r0', r2, r3⟩, ?_, by omega, a3, ?_, a5, ?_, a7, a8, ?_, ?_, ?_, ?_, b4, b5, b6, b7, b8, b9⟩
    · split <;> omega
    · intro z; have := b1 w1; omega
    · rw [if_neg (by split <;> omega)]; exact (by rw [if_neg (by omega)] at a6; exact a6)
    · intro _; exact ⟨c1, rfl, rfl⟩
    · intro z; split at z <;> cases z
    · intro z
      by_cases k3 : so = 2
      · exact k3
      · rw [if_neg k3] at z; cases z
    · intro z _
      by_cases k3 : so = 2
      · rw [if_pos k3] at z; omega
      · omega
  rw [if_neg w1] at hm
  simp only [if_neg w1]
  by_cases w2 : aw = 2
  · rw [if_pos w2] at hm
    simp only [if_pos w2]
    have hs := b2 w2
    refine ⟨⟨r1, fun _ => r0', r2, r3⟩, by omega, by omega, a3, a4, fun q hq => (by cases hq), rfl, trivial, by simp [opnW], by omega, by omega, by omega, by omega, by omega, fun q hq => (by cases hq), fun _ => rfl, fun h u z => (by cases z), by omega, by omega⟩
  rw [if_neg w2] at hm
  simp only [if_neg w2]
  by_cases w3 : aw = 3
  · rw [if_pos w3] at hm
    simp only [if_pos w3]
    have hk := of_decide_eq_true hm
    have a6' : dpI 16 0 it (opsW wt) := by rw [if_neg (by omega)] at a6; exact a6
    have bd := okW_bd (by omega) a7
    have b3' := b3 (by omega)
    by_cases k25 : k = 25
    · rw [if_pos k25]
      refine ⟨⟨r1, fun _ => r0', r2, r3⟩, by omega, a2, a3, a4, a5, ?_, ?_, ?_, by omega, by omega, by omega, fun _ => b3', b4, b5, b6, b7, b8, b9⟩
      · rw [if_neg (by omega)]; exact a6'
      · simp only [okW]; rw [if_pos trivial]; exact a7
      · simp only [opnW]; rw [if_pos trivial]; omega
    · rw [if_neg k25]
      have ext : ∀ q : IT, wfI q → q.1 < 2 → wfQ ((4, pt), (rs, wr), (so, lo, va), (re, cn, op, le), it ++ [q], wt) := by
        intro q hq hq2
        refine ⟨⟨r1, fun _ => r0', r2, r3⟩, by omega, a2, a3, a4, ?_, ?_, a7, a8, by omega, by omega, by omega, fun _ => b3', b4, b5, b6, b7, b8, b9⟩
        · intro x hx
          rcases List.mem_append.mp hx with hx | hx
          · exact a5 x hx
          · rw [List.mem_singleton.mp hx]; exact hq
        · rw [if_pos rfl]
          refine dpI_app a6' ?_
          simp only [dpI]
          rw [if_pos hq2]
          exact ⟨by omega, trivial⟩
      by_cases k2 : k = 2
      · rw [if_pos k2]; exact ext (0, v) (Or.inl ⟨rfl, hv k2⟩) (show (0 : Nat) < 2 by decide)
      · rw [if_neg k2]; exact ext (1, nI (k - 9)) (Or.inr (Or.inl ⟨rfl, ⟨k - 9, rfl, by omega, by omega⟩⟩)) (show (1 : Nat) < 2 by decide)
  rw [if_neg w3] at hm
  simp only [if_neg w3]
  have w4 : aw = 4 := by omega
  have a6' : dpI 16 0 it (opsW wt + 1) := by rw [if_pos w4] at a6; exact a6
  have b3' := b3 (by omega)
  by_cases k18 : 18 ≤ k ∧ k ≤ 20
  · rw [if_pos k18]
    have hr := rkW_2 k
    obtain ⟨c1, c2⟩ := it_rl (r := rkW k) a5 a6' a7 hr.1
    obtain ⟨d1, d2, d3⟩ := rl_ok (r := rkW k) a7 hr.1
    refine ⟨⟨r1, fun _ => r0', r2, r3⟩, by omega, a2, a3, a4, c1, ?_, ?_, ?_, by omega, by omega, by omega, fun _ => b3', b4, b5, b6, b7, b8, b9⟩
    · simp only [opsW]; rw [if_neg (show ¬ k = 25 by omega), if_neg (by omega)]; exact c2
    · simp only [okW]; rw [if_neg (show ¬ k = 25 by omega)]; exact ⟨k18, by omega, d1⟩
    · simp only [opnW]; rw [if_neg (show ¬ k = 25 by omega)]; omega
  rw [if_neg k18] at hm
  rw [if_neg k18]
  by_cases ho : opnW wt = 0
  · rw [if_pos ho] at hm
    have hx := it_x a5 a6' a7 ho
    have nk : k ≠ 26 := by
      intro z
      subst z
      split at hm
      · exact absurd hm (by decide)
      · split at hm <;> exact absurd hm (by decide)
    rw [if_neg nk]
    by_cases p1 : pt = 1
    · rw [if_pos p1] at hm
      have hk := of_decide_eq_true hm
      rw [if_neg (by omega), if_neg (by omega), if_neg (by omega)]
      refine ⟨⟨r1, fun _ => r0', r2, r3⟩, by omega, by omega, a3, a4, fun q hq => (by cases hq), rfl, trivial, by simp [opnW], by omega, by omega, by omega, by omega, fun _ => b4 (by omega), b5, b6, b7, fun _ => ⟨by omega, hx⟩, by omega⟩
    rw [if_neg p1] at hm
    by_cases p2 : pt = 2
    · rw [if_pos p2] at hm
      have hk := of_decide_eq_true hm
      obtain ⟨o1, o2⟩ := b8 p2
      have hre : ∀ q ∈ re ++ [(cn, op, le, it ++ rlE 1 wt)], wfR q := by
        intro q hq
        rcases List.mem_append.mp hq with hq | hq
        · exact b5 q hq
        · rw [List.mem_singleton.mp hq]; exact ⟨o1, o2, hx⟩
      have hfst : ∀ h u, re ++ [(cn, op, le, it ++ rlE 1 wt)] = h :: u → h.1 = true := by
        intro h u z
        cases re with
        | nil => simp only [List.nil_append] at z; cases z; exact b6 rfl
        | cons x y => simp only [List.cons_append] at z; cases z; exact b7 _ _ rfl
      rw [if_neg (show ¬ k = 6 by omega)]
      by_cases k17 : k = 17
      · rw [if_pos k17, if_neg (show ¬ pt = 0 by omega)]
        refine ⟨⟨?_, by omega, ?_, ?_⟩, by omega, by omega, by omega, fun _ => rfl, fun q hq => (by cases hq), rfl, trivial, by simp [opnW], fun _ => ⟨rfl, rfl, rfl⟩, by omega, by omega, by omega, by omega, fun q hq => (by cases hq), fun _ => rfl, fun h u z => (by cases z), by omega, fun _ => rfl⟩
        · rw [List.length_append]; simp only [List.length_cons, List.length_nil]; omega
        · intro r hr
          rcases List.mem_append.mp hr with hr | hr
          · exact r2 r hr
          · rw [List.mem_singleton.mp hr]; exact ⟨a3, b4 (by omega), hre, hfst⟩
        · intro r hr
          rcases List.mem_append.mp hr with hr | hr
          · exact r3 r hr
          · rw [List.mem_singleton.mp hr]; exact a4
      · rw [if_neg k17, if_pos (by omega)]
        exact ⟨⟨r1, fun _ => r0', r2, r3⟩, by omega, by omega, a3, a4, fun q hq => (by cases hq), rfl, trivial, by simp [opnW], by omega, by omega, by omega, by omega, fun _ => b4 (by omega), hre, fun z => absurd z (by simp), hfst, by omega, by omega⟩
    · rw [if_neg p2] at hm
      have hk := of_decide_eq_true hm
      have p0 : pt = 0 := by omega
      by_cases k6 : k = 6
      · rw [if_pos k6]
        exact ⟨⟨r1, fun _ => r0', r2, r3⟩, by omega, by omega, a3, a4, fun q hq => (by cases hq), rfl, trivial, by simp [opnW], by omega, by omega, by omega, by omega, fun _ _ => hx, fun q hq => (by cases hq), fun _ => rfl, fun h u z => (by cases z), by omega, by omega⟩
      · rw [if_neg k6, if_pos (by omega), if_pos p0]
        refine ⟨⟨?_, by omega, ?_, ?_⟩, by omega, by omega, by omega, fun _ => rfl, fun q hq => (by cases hq), rfl, trivial, by simp [opnW], fun _ => ⟨rfl, rfl, rfl⟩, by omega, by omega, by omega, by omega, fun q hq => (by cases hq), fun _ => rfl, fun h u z => (by cases z), by omega, fun _ => rfl⟩
        · rw [List.length_append]; simp only [List.length_cons, List.length_nil]; omega
        · intro r hr
          rcases List.mem_append.mp hr with hr | hr
          · exact r2 r hr
          · rw [List.mem_singleton.mp hr]; exact ⟨a3, fun _ => hx, fun q hq => (by cases hq), fun h u z => (by cases z)⟩
        · intro r hr
          rcases List.mem_append.mp hr with hr | hr
          · exact r3 r hr
          · rw [List.mem_singleton.mp hr]; exact a4
  · rw [if_neg ho] at hm
    have hk := of_decide_eq_true hm
    rw [if_pos hk]
    obtain ⟨c1, c2⟩ := it_rl (r := 1) a5 a6' a7 (by omega)
    obtain ⟨d1, d2, d3⟩ := rl_ok (r := 1) a7 (by omega)
    rcases rl_1 (w := wt) with e | ⟨u, e⟩
    · rw [e] at d2; simp only [opnW] at d2; omega
    · rw [e] at c2 d1 d2 ⊢
      simp only [opsW, okW, if_pos rfl] at c2 d1
      have d2' : opnW u + 1 = opnW wt := d2
      exact ⟨⟨r1, fun _ => r0', r2, r3⟩, by omega, a2, a3, a4, c1, c2, d1, by simp only [List.tail_cons]; omega, by omega, by omega, by omega, fun _ => b3', b4, b5, b6, b7, b8, b9⟩
