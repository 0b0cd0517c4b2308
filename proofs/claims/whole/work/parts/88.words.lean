/-! words -/
def mtS (T : Nat → Int32) (e : Nat) : Nat → Nat → Nat → Bool
  | 0, _, _ => true
  | q + 1, i, k => (decide (i < e) && decide (T i = chW k)) && mtS T e q (i + 1) (k + 1)
def wdC (T : Nat → Int32) (s e k q : Nat) : Bool := mtS T e q s k && decide (s + q = e)
theorem wd_loop {n s e : Nat} {σ : PS} (hE : scE n σ) (he : e ≤ n) (h1 : gi σ 40 1 = nI e) (h2 : gi σ 40 2 = nI s) : ∀ (q m i k w : Nat) (al : Bool), (∀ j, j < q → chW (k + j) ≠ 32) → chW (k + q) = 32 → k + q < 70 → i + q ≤ 9000 → w < 100 → fX6_wordToken_12 (m + q + 1) (nI w) (nI i) (tb al) (nI k) σ = if (al && (mtS (txS (gi σ 2) n) e q i k && decide (i + q = e))) = true then some (nI (3 + w), σ) else fX6_wordToken_12 m (nI (w + 1)) (nI s) 1 (nI (k + q + 1)) σ := by
  have hn := hE.1
  intro q
  induction q with
  | zero =>
    intro m i k w al hl hsp hk hi hw
    rw [Nat.add_zero] at hsp
    rw [Nat.add_zero m, fX6_wordToken_12, if_neg (l_nle (k := 70) (by rfl) (by omega) (by decide)), gd_t (inb_nI (by omega) (by decide)), nI_clamp (by omega), if_pos hsp, ite_tb, h1]
    unfold fX6_wordToken_91 fX6_wordToken_101
    rw [nI_1, nI_1, h2, Nat.add_zero i, Nat.add_zero k, mtS, Bool.true_and]
    cases al with
    | false => rw [if_neg (by decide), Bool.false_and, if_neg (by decide)]
    | true =>
      rw [if_pos rfl, Bool.true_and]
      by_cases hie : i = e
      · rw [if_pos (by rw [hie]), if_pos (decide_eq_true hie), show (3 : Int32) = nI 3 from rfl, nI_add]
      · rw [if_neg (fun z => hie (nIeq_lit z (by omega) (by omega))), if_neg (by rw [decide_eq_false hie]; decide)]
  | succ q ih =>
    intro m i k w al hl hsp hk hi hw
    have hl0 := hl 0 (by omega)
    rw [Nat.add_zero] at hl0
    have ih' := fun al => ih m (i + 1) (k + 1) w al (fun j hj => by rw [show k + 1 + j = k + (j + 1) by omega]; exact hl (j + 1) (by omega)) (by rw [show k + 1 + q = k + (q + 1) by omega]; exact hsp) (by omega) (by omega) hw
    rw [show m + (q + 1) + 1 = (m + q + 1) + 1 by omega, fX6_wordToken_12, if_neg (l_nle (k := 70) (by rfl) (by omega) (by decide)), gd_t (inb_nI (by omega) (by decide)), nI_clamp (show k < 2 ^ 31 by omega), if_neg hl0, ite_tb, h1]
    unfold fX6_wordToken_67 fX6_wordToken_68 fX6_wordToken_101
    rw [nI_1, nI_1]
    have iht := ih' true
    have ihf := ih' false
    rw [show tb true = 1 from rfl, Bool.true_and, show i + 1 + q = i + (q + 1) by omega, show k + 1 + q + 1 = k + (q + 1) + 1 by omega] at iht
    rw [show tb false = 0 from rfl, Bool.false_and, if_neg (by decide), show k + 1 + q + 1 = k + (q + 1) + 1 by omega] at ihf
    rw [mtS]
    cases al with
    | false =>
      rw [if_neg (by decide), Bool.false_and, if_neg (by decide)]
      exact ihf
    | true =>
      rw [if_pos rfl, Bool.true_and]
      by_cases hie : i < e
      · rw [if_neg (nI_ge hie (by omega)), at_eq hn hE.2 (by omega), if_pos (show i < n by omega)]
        simp only [Option.bind_some]
        by_cases hc : txS (gi σ 2) n i = chW k
        · rw [if_pos hc, decide_eq_true hie, decide_eq_true hc, Bool.true_and, Bool.true_and]
          exact iht
        · rw [if_neg hc, decide_eq_false hc, Bool.and_false, Bool.false_and, Bool.false_and, if_neg (by decide)]
          exact ihf
      · rw [if_pos (nI_le (by omega) (by omega)), decide_eq_false hie, Bool.false_and, Bool.false_and, Bool.false_and, if_neg (by decide)]
        exact ihf
def wtS (T : Nat → Int32) (s e : Nat) : Nat := if wdC T s e 0 5 = true then 3 else if wdC T s e 6 4 = true then 4 else if wdC T s e 11 3 = true then 5 else if wdC T s e 15 2 = true then 6 else if wdC T s e 18 2 = true then 7 else if wdC T s e 21 3 = true then 8 else if wdC T s e 25 4 = true then 9 else if wdC T s e 30 6 = true then 10 else if wdC T s e 37 6 = true then 11 else if wdC T s e 44 5 = true then 12 else if wdC T s e 50 6 = true then 13 else if wdC T s e 57 3 = true then 14 else if wdC T s e 61 3 = true then 15 else if wdC T s e 65 4 = true then 16 else 1
theorem word_eq {n s e : Nat} {σ : PS} (hE : scE n σ) (he : e ≤ n) (hs : s ≤ e) (h1 : gi σ 40 1 = nI e) (h2 : gi σ 40 2 = nI s) : fX6_wordToken σ = some (nI (wtS (txS (gi σ 2) n) s e), σ) := by
  have hn := hE.1
  unfold fX6_wordToken
  obtain ⟨m, hm⟩ := FU_k 71 (by decide)
  rw [hm, h2]
  unfold wtS
  have e0 := wd_loop hE he h1 h2 5 (m + 65) s 0 0 true (by decide) (by decide) (by decide) (by omega) (by decide)
  rw [Bool.true_and] at e0
  have e1 := wd_loop hE he h1 h2 4 (m + 60) s 6 1 true (by decide) (by decide) (by decide) (by omega) (by decide)
  rw [Bool.true_and] at e1
  have e2 := wd_loop hE he h1 h2 3 (m + 56) s 11 2 true (by decide) (by decide) (by decide) (by omega) (by decide)
  rw [Bool.true_and] at e2
  have e3 := wd_loop hE he h1 h2 2 (m + 53) s 15 3 true (by decide) (by decide) (by decide) (by omega) (by decide)
  rw [Bool.true_and] at e3
  have e4 := wd_loop hE he h1 h2 2 (m + 50) s 18 4 true (by decide) (by decide) (by decide) (by omega) (by decide)
  rw [Bool.true_and] at e4
  have e5 := wd_loop hE he h1 h2 3 (m + 46) s 21 5 true (by decide) (by decide) (by decide) (by omega) (by decide)
  rw [Bool.true_and] at e5
  have e6 := wd_loop hE he h1 h2 4 (m + 41) s 25 6 true (by decide) (by decide) (by decide) (by omega) (by decide)
  rw [Bool.true_and] at e6
  have e7 := wd_loop hE he h1 h2 6 (m + 34) s 30 7 true (by decide) (by decide) (by decide) (by omega) (by decide)
  rw [Bool.true_and] at e7
  have e8 := wd_loop hE he h1 h2 6 (m + 27) s 37 8 true (by decide) (by decide) (by decide) (by omega) (by decide)
  rw [Bool.true_and] at e8
  have e9 := wd_loop hE he h1 h2 5 (m + 21) s 44 9 true (by decide) (by decide) (by decide) (by omega) (by decide)
  rw [Bool.true_and] at e9
  have e10 := wd_loop hE he h1 h2 6 (m + 14) s 50 10 true (by decide) (by decide) (by decide) (by omega) (by decide)
  rw [Bool.true_and] at e10
  have e11 := wd_loop hE he h1 h2 3 (m + 10) s 57 11 true (by decide) (by decide) (by decide) (by omega) (by decide)
  rw [Bool.true_and] at e11
  have e12 := wd_loop hE he h1 h2 3 (m + 6) s 61 12 true (by decide) (by decide) (by decide) (by omega) (by decide)
  rw [Bool.true_and] at e12
  have e13 := wd_loop hE he h1 h2 4 (m + 1) s 65 13 true (by decide) (by decide) (by decide) (by omega) (by decide)
  rw [Bool.true_and] at e13
  refine (show fX6_wordToken_12 (m + 71) 0 (nI s) 1 0 σ = _ from e0).trans ?_
  by_cases c0 : wdC (txS (gi σ 2) n) s e 0 5 = true
  · rw [if_pos (show (mtS (txS (gi σ 2) n) e 5 s 0 && decide (s + 5 = e)) = true from c0), if_pos c0]
  rw [if_neg (show ¬ (mtS (txS (gi σ 2) n) e 5 s 0 && decide (s + 5 = e)) = true from c0), if_neg c0]
  refine (show _ = _ from e1).trans ?_
  by_cases c1 : wdC (txS (gi σ 2) n) s e 6 4 = true
  · rw [if_pos (show (mtS (txS (gi σ 2) n) e 4 s 6 && decide (s + 4 = e)) = true from c1), if_pos c1]
  rw [if_neg (show ¬ (mtS (txS (gi σ 2) n) e 4 s 6 && decide (s + 4 = e)) = true from c1), if_neg c1]
  refine (show _ = _ from e2).trans ?_
  by_cases c2 : wdC (txS (gi σ 2) n) s e 11 3 = true
  · rw [if_pos (show (mtS (txS (gi σ 2) n) e 3 s 11 && decide (s + 3 = e)) = true from c2), if_pos c2]
  rw [if_neg (show ¬ (mtS (txS (gi σ 2) n) e 3 s 11 && decide (s + 3 = e)) = true from c2), if_neg c2]
  refine (show _ = _ from e3).trans ?_
  by_cases c3 : wdC (txS (gi σ 2) n) s e 15 2 = true
  · rw [if_pos (show (mtS (txS (gi σ 2) n) e 2 s 15 && decide (s + 2 = e)) = true from c3), if_pos c3]
  rw [if_neg (show ¬ (mtS (txS (gi σ 2) n) e 2 s 15 && decide (s + 2 = e)) = true from c3), if_neg c3]
  refine (show _ = _ from e4).trans ?_
  by_cases c4 : wdC (txS (gi σ 2) n) s e 18 2 = true
  · rw [if_pos (show (mtS (txS (gi σ 2) n) e 2 s 18 && decide (s + 2 = e)) = true from c4), if_pos c4]
  rw [if_neg (show ¬ (mtS (txS (gi σ 2) n) e 2 s 18 && decide (s + 2 = e)) = true from c4), if_neg c4]
  refine (show _ = _ from e5).trans ?_
  by_cases c5 : wdC (txS (gi σ 2) n) s e 21 3 = true
  · rw [if_pos (show (mtS (txS (gi σ 2) n) e 3 s 21 && decide (s + 3 = e)) = true from c5), if_pos c5]
  rw [if_neg (show ¬ (mtS (txS (gi σ 2) n) e 3 s 21 && decide (s + 3 = e)) = true from c5), if_neg c5]
  refine (show _ = _ from e6).trans ?_
  by_cases c6 : wdC (txS (gi σ 2) n) s e 25 4 = true
  · rw [if_pos (show (mtS (txS (gi σ 2) n) e 4 s 25 && decide (s + 4 = e)) = true from c6), if_pos c6]
  rw [if_neg (show ¬ (mtS (txS (gi σ 2) n) e 4 s 25 && decide (s + 4 = e)) = true from c6), if_neg c6]
  refine (show _ = _ from e7).trans ?_
  by_cases c7 : wdC (txS (gi σ 2) n) s e 30 6 = true
  · rw [if_pos (show (mtS (txS (gi σ 2) n) e 6 s 30 && decide (s + 6 = e)) = true from c7), if_pos c7]
  rw [if_neg (show ¬ (mtS (txS (gi σ 2) n) e 6 s 30 && decide (s + 6 = e)) = true from c7), if_neg c7]
  refine (show _ = _ from e8).trans ?_
  by_cases c8 : wdC (txS (gi σ 2) n) s e 37 6 = true
  · rw [if_pos (show (mtS (txS (gi σ 2) n) e 6 s 37 && decide (s + 6 = e)) = true from c8), if_pos c8]
  rw [if_neg (show ¬ (mtS (txS (gi σ 2) n) e 6 s 37 && decide (s + 6 = e)) = true from c8), if_neg c8]
  refine (show _ = _ from e9).trans ?_
  by_cases c9 : wdC (txS (gi σ 2) n) s e 44 5 = true
  · rw [if_pos (show (mtS (txS (gi σ 2) n) e 5 s 44 && decide (s + 5 = e)) = true from c9), if_pos c9]
  rw [if_neg (show ¬ (mtS (txS (gi σ 2) n) e 5 s 44 && decide (s + 5 = e)) = true from c9), if_neg c9]
  refine (show _ = _ from e10).trans ?_
  by_cases c10 : wdC (txS (gi σ 2) n) s e 50 6 = true
  · rw [if_pos (show (mtS (txS (gi σ 2) n) e 6 s 50 && decide (s + 6 = e)) = true from c10), if_pos c10]
  rw [if_neg (show ¬ (mtS (txS (gi σ 2) n) e 6 s 50 && decide (s + 6 = e)) = true from c10), if_neg c10]
  refine (show _ = _ from e11).trans ?_
  by_cases c11 : wdC (txS (gi σ 2) n) s e 57 3 = true
  · rw [if_pos (show (mtS (txS (gi σ 2) n) e 3 s 57 && decide (s + 3 = e)) = true from c11), if_pos c11]
  rw [if_neg (show ¬ (mtS (txS (gi σ 2) n) e 3 s 57 && decide (s + 3 = e)) = true from c11), if_neg c11]
  refine (show _ = _ from e12).trans ?_
  by_cases c12 : wdC (txS (gi σ 2) n) s e 61 3 = true
  · rw [if_pos (show (mtS (txS (gi σ 2) n) e 3 s 61 && decide (s + 3 = e)) = true from c12), if_pos c12]
  rw [if_neg (show ¬ (mtS (txS (gi σ 2) n) e 3 s 61 && decide (s + 3 = e)) = true from c12), if_neg c12]
  refine (show _ = _ from e13).trans ?_
  by_cases c13 : wdC (txS (gi σ 2) n) s e 65 4 = true
  · rw [if_pos (show (mtS (txS (gi σ 2) n) e 4 s 65 && decide (s + 4 = e)) = true from c13), if_pos c13]
  rw [if_neg (show ¬ (mtS (txS (gi σ 2) n) e 4 s 65 && decide (s + 4 = e)) = true from c13), if_neg c13]
  rw [fX6_wordToken_12, if_pos (show (70 : Int32) ≤ nI 70 by decide)]
  rfl
