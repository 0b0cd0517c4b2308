/-! the token at a place -/
def sg1 (c : Int32) : Nat := if c = 40 then 25 else if c = 41 then 26 else if c = 42 then 20 else if c = 43 then 18 else if c = 45 then 19 else if c = 59 then 17 else if c = 60 then 23 else 1
def sgK (c d : Int32) : Nat := if d = 61 then (if c = 61 then 21 else if c = 33 then 22 else if c = 60 then 24 else sg1 c) else sg1 c
def sgN (c d : Int32) : Nat := if d = 61 then (if c = 61 then 2 else if c = 33 then 2 else if c = 60 then 2 else 1) else 1
theorem and255_ne (x : Int32) : x &&& 255 ≠ -1 := by
  intro h
  have h2 := congrArg (fun y : Int32 => y.toBitVec.getLsbD 8) h
  simp at h2
theorem sign_eq (c : Int32) (σ : PS) : fX6_signToken c σ = some (nI (sg1 c), σ) := by
  unfold fX6_signToken sg1
  by_cases h40 : c = 40
  · rw [if_pos h40, if_pos h40]; rfl
  rw [if_neg h40, if_neg h40]
  by_cases h41 : c = 41
  · rw [if_pos h41, if_pos h41]; rfl
  rw [if_neg h41, if_neg h41]
  by_cases h42 : c = 42
  · rw [if_pos h42, if_pos h42]; rfl
  rw [if_neg h42, if_neg h42]
  by_cases h43 : c = 43
  · rw [if_pos h43, if_pos h43]; rfl
  rw [if_neg h43, if_neg h43]
  by_cases h44 : c = 44
  · rw [if_pos h44]; subst h44; rfl
  rw [if_neg h44]
  by_cases h45 : c = 45
  · rw [if_pos h45, if_pos h45]; rfl
  rw [if_neg h45, if_neg h45]
  by_cases h46 : c = 46
  · rw [if_pos h46]; subst h46; rfl
  rw [if_neg h46]
  by_cases h47 : c = 47
  · rw [if_pos h47]; subst h47; rfl
  rw [if_neg h47]
  by_cases h48 : c = 48
  · rw [if_pos h48]; subst h48; rfl
  rw [if_neg h48]
  by_cases h49 : c = 49
  · rw [if_pos h49]; subst h49; rfl
  rw [if_neg h49]
  by_cases h50 : c = 50
  · rw [if_pos h50]; subst h50; rfl
  rw [if_neg h50]
  by_cases h51 : c = 51
  · rw [if_pos h51]; subst h51; rfl
  rw [if_neg h51]
  by_cases h52 : c = 52
  · rw [if_pos h52]; subst h52; rfl
  rw [if_neg h52]
  by_cases h53 : c = 53
  · rw [if_pos h53]; subst h53; rfl
  rw [if_neg h53]
  by_cases h54 : c = 54
  · rw [if_pos h54]; subst h54; rfl
  rw [if_neg h54]
  by_cases h55 : c = 55
  · rw [if_pos h55]; subst h55; rfl
  rw [if_neg h55]
  by_cases h56 : c = 56
  · rw [if_pos h56]; subst h56; rfl
  rw [if_neg h56]
  by_cases h57 : c = 57
  · rw [if_pos h57]; subst h57; rfl
  rw [if_neg h57]
  by_cases h58 : c = 58
  · rw [if_pos h58]; subst h58; rfl
  rw [if_neg h58]
  by_cases h59 : c = 59
  · rw [if_pos h59, if_pos h59]; rfl
  rw [if_neg h59, if_neg h59]
  by_cases h60 : c = 60
  · rw [if_pos h60, if_pos h60]; rfl
  rw [if_neg h60, if_neg h60]
  rfl
theorem sgn_ok {n s : Nat} {σ : PS} (hE : scE n σ) (hs : s < n) (h1 : gi σ 40 1 = nI s) : fX6_takeSign (txS (gi σ 2) n s) σ = some (sI (sI σ 40 3 (nI (sgK (txS (gi σ 2) n s) (txS (gi σ 2) n (s + 1))))) 40 1 (nI (s + sgN (txS (gi σ 2) n s) (txS (gi σ 2) n (s + 1))))) := by
  have hn := hE.1
  generalize hc : txS (gi σ 2) n s = c
  generalize hd : txS (gi σ 2) n (s + 1) = d
  unfold fX6_takeSign
  rw [h1, nI_1, at_eq hn hE.2 (by omega), hd]
  simp only [Option.bind_some]
  have e1 : fX6_takeSign_40 c σ = some (sI (sI σ 40 3 (nI (sg1 c))) 40 1 (nI (s + 1))) := by
    unfold fX6_takeSign_40 fX6_takeSign_41
    rw [if_pos rfl, sign_eq]
    simp only [Option.bind_some]
    unfold fX6_takeSign_58
    rw [if_pos rfl, gi_nj (by decide), h1, nI_1]
  have e2 : ∀ k, fX6_pairToken c σ = some (nI k, σ) → fX6_takeSign_36 c σ = some (sI (sI σ 40 3 (nI k)) 40 1 (nI (s + 2))) := by
    intro k hk
    unfold fX6_takeSign_36 fX6_takeSign_41
    rw [if_neg (by decide), hk]
    simp only [Option.bind_some]
    unfold fX6_takeSign_58
    rw [if_neg (by decide), gi_nj (by decide), h1, show (2 : Int32) = nI 2 from rfl, nI_add]
  have hp : fX6_pairToken c σ = if c = 61 then some (21, σ) else if c = 33 then some (22, σ) else some (24, σ) := rfl
  unfold sgK sgN
  by_cases hn1 : s + 1 < n
  · rw [if_pos hn1]
    by_cases h61 : d = 61
    · rw [if_pos h61, if_pos h61, if_pos h61]
      by_cases a : c = 61
      · rw [if_pos a, if_pos a, if_pos a]; exact e2 21 (by rw [hp, if_pos a]; rfl)
      rw [if_neg a, if_neg a, if_neg a]
      by_cases b : c = 33
      · rw [if_pos b, if_pos b, if_pos b]; exact e2 22 (by rw [hp, if_neg a, if_pos b]; rfl)
      rw [if_neg b, if_neg b, if_neg b]
      by_cases f : c = 60
      · rw [if_pos f, if_pos f, if_pos f]; exact e2 24 (by rw [hp, if_neg a, if_neg b]; rfl)
      rw [if_neg f, if_neg f, if_neg f]
      exact e1
    · rw [if_neg h61, if_neg h61, if_neg h61]
      exact e1
  · rw [if_neg hn1, if_neg (by decide)]
    have : d = 0 := by rw [← hd]; exact if_neg hn1
    rw [this, if_neg (by decide), if_neg (by decide)]
    exact e1
def tkE (T : Nat → Int32) (n s : Nat) : Nat := if n ≤ s then s else if inR 97 122 (T s) = true then runS (inR 97 122) T (n - s) s else if inR 48 57 (T s) = true then runS (inR 48 57) T (n - s) s else s + sgN (T s) (T (s + 1))
def tkK (T : Nat → Int32) (n s : Nat) : Nat := if n ≤ s then 0 else if inR 97 122 (T s) = true then (if 8 < tkE T n s - s then 1 else wtS T s (tkE T n s)) else if inR 48 57 (T s) = true then (if 4 < tkE T n s - s then 1 else 2) else sgK (T s) (T (s + 1))
def tkV (T : Nat → Int32) (n s : Nat) : Int32 := vlS T (n - s) s 0
def fr4 (σ τ : PS) : Prop := (∀ k j, (k = 40 → j = 0 ∨ 5 ≤ j) → gi τ k j = gi σ k j) ∧ bkO τ = bkO σ ∧ drO τ = drO σ
theorem fr4.i {σ τ : PS} {j : Nat} {x : Int32} (h : fr4 σ τ) (hj : 1 ≤ j ∧ j ≤ 4) : fr4 σ (sI τ 40 j x) := by
  refine ⟨fun k i hk => ?_, h.2⟩
  by_cases h40 : k = 40
  · subst h40; rw [gi_nj (by have := hk rfl; omega)]; exact h.1 40 i hk
  · rw [gi_ne h40]; exact h.1 k i hk
theorem fr4.rf {σ : PS} : fr4 σ σ := ⟨fun _ _ _ => rfl, rfl, rfl⟩
theorem tx2 {σ τ : PS} {n : Nat} (h : fr4 σ τ) : txS (gi τ 2) n = txS (gi σ 2) n := by
  funext p
  unfold txS
  rw [h.1 2 p (by intro q; cases q)]
def adP (n s : Nat) (σ τ : PS) : Prop := fr4 σ τ ∧ gi τ 40 1 = nI (tkE (txS (gi σ 2) n) n s) ∧ gi τ 40 2 = nI s ∧ gi τ 40 3 = nI (tkK (txS (gi σ 2) n) n s) ∧ (tkK (txS (gi σ 2) n) n s = 2 → gi τ 40 4 = tkV (txS (gi σ 2) n) n s)
theorem sg1_ne (c : Int32) : sg1 c ≠ 2 := by unfold sg1; (repeat' split) <;> decide
theorem sgK_ne (c d : Int32) : sgK c d ≠ 2 := by
  unfold sgK
  split
  · split
    · decide
    · split
      · decide
      · split
        · decide
        · exact sg1_ne c
  · exact sg1_ne c
theorem it_ne {c : Prop} [Decidable c] {a b : Nat} (h1 : a ≠ 2) (h2 : b ≠ 2) : (if c then a else b) ≠ 2 := by
  split
  · exact h1
  · exact h2
theorem wtS_ne (T : Nat → Int32) (s e : Nat) : wtS T s e ≠ 2 := by
  unfold wtS
  exact it_ne (by decide) (it_ne (by decide) (it_ne (by decide) (it_ne (by decide) (it_ne (by decide) (it_ne (by decide) (it_ne (by decide) (it_ne (by decide) (it_ne (by decide) (it_ne (by decide) (it_ne (by decide) (it_ne (by decide) (it_ne (by decide) (it_ne (by decide) (by decide))))))))))))))
theorem adv_44 {n s : Nat} {σ : PS} (hE : scE n σ) (hs : s ≤ n) (h1 : gi σ 40 1 = nI s) : hO (fX6_advance_44 σ) (adP n s σ) := by
  have hn := hE.1
  have hE2 : scE n (sI σ 40 2 (nI s)) := scE_40 hE
  unfold fX6_advance_44
  rw [h1, gi_nj (by decide), h1, at_eq hn hE2.2 (by omega)]
  simp only [Option.bind_some]
  rw [show gi (sI σ 40 2 (nI s)) 2 = gi σ 2 from rfl]
  unfold adP
  generalize hT : txS (gi σ 2) n = T
  have hT' : txS (gi σ 2) n s = T s := by rw [hT]
  by_cases hsn : s < n
  · have hge : ¬ n ≤ s := by omega
    rw [if_pos hsn]
    have hne : T s ≠ -1 := by
      rw [← hT']
      unfold txS
      rw [if_pos hsn]
      exact and255_ne _
    rw [if_neg hne, show (97 : Int32) = nI 97 from rfl, show (122 : Int32) = nI 122 from rfl, within_tb]
    simp only [Option.bind_some]
    rw [ite_tb]
    by_cases hl' : inR 97 122 (T s) = true
    · rw [if_pos hl']
      refine hO.then (P := fun τ => adP n s σ τ) ?_ (fun τ h => ?_)
      · unfold fX6_takeWord
        obtain ⟨m, hm⟩ := FU_k (n - s + 1) (by omega)
        rw [hm, show m + (n - s + 1) = m + (n - s) + 1 by omega]
        refine word_ok (n - s) m s _ (by omega) hE2 (by rw [gi_nj (by decide), h1]) (fun τ t1 t2 t3 t4 => ?_)
        rw [show gi (sI σ 40 2 (nI s)) 2 = gi σ 2 from rfl, hT] at t4
        have hfr : fr4 σ τ := ⟨fun k j hk => by
          rw [t1 k j (fun q => by have := hk q; omega)]
          by_cases h40 : k = 40
          · subst h40; rw [gi_nj (by have := hk rfl; omega)]
          · rw [gi_ne h40], t2, t3⟩
        have hee : tkE T n s = runS (inR 97 122) T (n - s) s := by unfold tkE; rw [if_neg hge, if_pos hl']
        have hle := runS_le (P := inR 97 122) (T := T) (r := n - s) (p := s)
        have t2' : gi τ 40 2 = nI s := by rw [t1 40 2 (by intro _; decide), gi_eq]
        rw [← hee] at t4 hle
        unfold fX6_takeWord_48
        have hk : tkK T n s = if 8 < tkE T n s - s then 1 else wtS T s (tkE T n s) := by
          have : tkK T n s = if n ≤ s then 0 else if inR 97 122 (T s) = true then (if 8 < tkE T n s - s then 1 else wtS T s (tkE T n s)) else if inR 48 57 (T s) = true then (if 4 < tkE T n s - s then 1 else 2) else sgK (T s) (T (s + 1)) := rfl
          rw [this, if_neg hge, if_pos hl']
        rw [t4, t2', nI_sub (by omega)]
        by_cases h8 : 8 < tkE T n s - s
        · rw [if_pos (l_lt (k := 8) (by rfl) h8 (by omega))]
          rw [if_pos h8] at hk
          refine ⟨_, rfl, hfr.i (by omega), ?_, ?_, ?_, fun z => ?_⟩
          · rw [gi_nj (by decide), t4, hT]
          · rw [gi_nj (by decide), t2']
          · rw [gi_eq, hT, hk]; rfl
          · rw [hT, hk] at z; cases z
        · rw [if_neg (l_nlt (k := 8) (by rfl) (by omega) (by decide))]
          rw [if_neg h8] at hk
          have hEτ : scE n τ := ⟨hn, by rw [hfr.1 1 1 (by intro q; cases q)]; exact hE.2⟩
          rw [word_eq hEτ (by omega) hle.1 t4 t2']
          simp only [Option.bind_some]
          rw [tx2 hfr, hT]
          refine ⟨_, rfl, hfr.i (by omega), ?_, ?_, ?_, fun z => ?_⟩
          · rw [gi_nj (by decide), t4, hT]
          · rw [gi_nj (by decide), t2']
          · rw [gi_eq, hT, hk]
          · rw [hT, hk] at z; exact absurd z (wtS_ne _ _ _)
      · unfold adP at h
        rw [hT] at h
        exact ⟨τ, rfl, h⟩
    · rw [if_neg hl']
      rw [show (48 : Int32) = nI 48 from rfl, show (57 : Int32) = nI 57 from rfl, within_tb]
      simp only [Option.bind_some]
      rw [ite_tb]
      by_cases hg' : inR 48 57 (T s) = true
      · rw [if_pos hg']
        refine hO.then (P := fun τ => adP n s σ τ) ?_ (fun τ h => ?_)
        · unfold fX6_takeInt
          obtain ⟨m, hm⟩ := FU_k (n - s + 1) (by omega)
          rw [hm, show m + (n - s + 1) = m + (n - s) + 1 by omega]
          refine int_ok (n - s) m s 0 _ (by omega) (scE_40 hE2) (by rw [gi_nj (by decide), gi_nj (by decide), h1]) gi_eq (fun τ t1 t2 t3 t4 t5 => ?_)
          rw [show gi (sI (sI σ 40 2 (nI s)) 40 4 0) 2 = gi σ 2 from rfl, hT] at t4 t5
          have hfr : fr4 σ τ := ⟨fun k j hk => by
            rw [t1 k j (fun q => by have := hk q; omega)]
            by_cases h40 : k = 40
            · subst h40; rw [gi_nj (by have := hk rfl; omega), gi_nj (by have := hk rfl; omega)]
            · rw [gi_ne h40, gi_ne h40], t2, t3⟩
          have hee : tkE T n s = runS (inR 48 57) T (n - s) s := by unfold tkE; rw [if_neg hge, if_neg hl', if_pos hg']
          have hle := runS_le (P := inR 48 57) (T := T) (r := n - s) (p := s)
          have t2' : gi τ 40 2 = nI s := by rw [t1 40 2 (by intro _; decide), gi_nj (by decide), gi_eq]
          rw [← hee] at t4 hle
          unfold fX6_takeInt_79
          have hk : tkK T n s = if 4 < tkE T n s - s then 1 else 2 := by
            have : tkK T n s = if n ≤ s then 0 else if inR 97 122 (T s) = true then (if 8 < tkE T n s - s then 1 else wtS T s (tkE T n s)) else if inR 48 57 (T s) = true then (if 4 < tkE T n s - s then 1 else 2) else sgK (T s) (T (s + 1)) := rfl
            rw [this, if_neg hge, if_neg hl', if_pos hg']
          rw [t4, t2', nI_sub (by omega)]
          by_cases h8 : 4 < tkE T n s - s
          · rw [if_pos (l_lt (k := 4) (by rfl) h8 (by omega))]
            rw [if_pos h8] at hk
            refine ⟨_, rfl, hfr.i (by omega), ?_, ?_, ?_, fun z => ?_⟩
            · rw [gi_nj (by decide), t4, hT]
            · rw [gi_nj (by decide), t2']
            · rw [gi_eq, hT, hk]; rfl
            · rw [hT, hk] at z; cases z
          · rw [if_neg (l_nlt (k := 4) (by rfl) (by omega) (by decide))]
            rw [if_neg h8] at hk
            refine ⟨_, rfl, hfr.i (by omega), ?_, ?_, ?_, fun z => ?_⟩
            · rw [gi_nj (by decide), t4, hT]
            · rw [gi_nj (by decide), t2']
            · rw [gi_eq, hT, hk]; rfl
            · rw [gi_nj (by decide), t5, hT]; rfl
        · unfold adP at h
          rw [hT] at h
          exact ⟨τ, rfl, h⟩
      · rw [if_neg hg']
        have hsg := sgn_ok hE2 hsn (by rw [gi_nj (by decide), h1])
        rw [show gi (sI σ 40 2 (nI s)) 2 = gi σ 2 from rfl, hT] at hsg
        rw [hsg]
        simp only [Option.bind_some]
        have hee : tkE T n s = s + sgN (T s) (T (s + 1)) := by unfold tkE; rw [if_neg hge, if_neg hl', if_neg hg']
        have hk : tkK T n s = sgK (T s) (T (s + 1)) := by unfold tkK; rw [if_neg hge, if_neg hl', if_neg hg']
        refine ⟨_, rfl, ((fr4.rf.i (by omega)).i (by omega)).i (by omega), ?_, ?_, ?_, fun z => ?_⟩
        · rw [gi_eq, hee]
        · rw [gi_nj (by decide), gi_nj (by decide), gi_eq]
        · rw [gi_nj (by decide), gi_eq, hk]
        · rw [hk] at z; exact absurd z (sgK_ne _ _)
  · have hge : n ≤ s := by omega
    rw [if_neg hsn, if_pos rfl]
    have hee : tkE T n s = s := by unfold tkE; rw [if_pos hge]
    have hk : tkK T n s = 0 := by unfold tkK; rw [if_pos hge]
    refine ⟨_, rfl, (fr4.rf.i (by omega)).i (by omega), ?_, ?_, ?_, fun z => ?_⟩
    · rw [gi_nj (by decide), gi_nj (by decide), h1, hee]
    · rw [gi_nj (by decide), gi_eq]
    · rw [gi_eq, hk]; rfl
    · rw [hk] at z; cases z
def skS (T : Nat → Int32) (n p : Nat) : Nat := runS blK T (n - p) p
theorem adv_0 {n : Nat} : ∀ (r m p : Nat) (σ : PS), p + r = n → scE n σ → gi σ 40 1 = nI p → hO (fX6_advance_0 (m + r + 1) σ) (adP n (runS blK (txS (gi σ 2) n) r p) σ) := by
  intro r
  induction r with
  | zero =>
    intro m p σ hp hE h1
    rw [fX6_advance_0, hE.2, h1, if_pos (nI_le (by omega) (by have := hE.1; omega))]
    exact adv_44 hE (by simp only [runS]; omega) h1
  | succ r ih =>
    intro m p σ hp hE h1
    have hn := hE.1
    rw [show m + (r + 1) + 1 = (m + r + 1) + 1 by omega, fX6_advance_0, hE.2, h1, if_neg (nI_ge (by omega) (by omega)), at_eq hn hE.2 (by omega), if_pos (by omega)]
    simp only [Option.bind_some]
    rw [isBlank_eq]
    simp only [Option.bind_some]
    rw [ite_tb, h1, nI_1, runS]
    by_cases hl : blK (txS (gi σ 2) n p) = true
    · rw [if_pos hl, if_pos hl]
      refine (ih m (p + 1) _ (by omega) (scE_40 hE) gi_eq).mono (fun τ h => ?_)
      rw [show gi (sI σ 40 1 (nI (p + 1))) 2 = gi σ 2 from rfl] at h
      unfold adP at h ⊢
      rw [show gi (sI σ 40 1 (nI (p + 1))) 2 = gi σ 2 from rfl] at h
      refine ⟨⟨fun k j hk => ?_, h.1.2⟩, h.2⟩
      rw [h.1.1 k j hk]
      by_cases h40 : k = 40
      · subst h40; rw [gi_nj (by have := hk rfl; omega)]
      · rw [gi_ne h40]
    · rw [if_neg hl, if_neg hl]
      exact adv_44 hE (by omega) h1
theorem adv_ok {n p : Nat} {σ : PS} (hE : scE n σ) (hp : p ≤ n) (h1 : gi σ 40 1 = nI p) : hO (fX6_advance σ) (adP n (skS (txS (gi σ 2) n) n p) σ) := by
  have hn := hE.1
  unfold fX6_advance skS
  obtain ⟨m, hm⟩ := FU_k (n - p + 1) (by omega)
  rw [hm, show m + (n - p + 1) = m + (n - p) + 1 by omega]
  exact adv_0 (n - p) m p σ (by omega) hE h1
