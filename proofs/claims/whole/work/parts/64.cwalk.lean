/-! the class's evening and walk -/
theorem rmF_ne {rm : Nat → Int32} {k j : Nat} (hk : k ≠ 1 ∧ k ≠ 3) : ∀ {O : List Nat} {D : TB}, rmF rm O D k j = D k j := by
  intro O
  induction O with
  | nil => intro D; rfl
  | cons c O ih =>
    intro D
    rw [rmF, ih]
    split
    · rw [u2_ne (by omega), u2_ne (by omega)]
    · rw [u2_ne (by omega)]
theorem rmF_nm {rm : Nat → Int32} {k j : Nat} : ∀ {O : List Nat} {D : TB}, j ∉ O → rmF rm O D k j = D k j := by
  intro O
  induction O with
  | nil => intro D _; rfl
  | cons c O ih =>
    intro D h
    rw [List.mem_cons, not_or] at h
    rw [rmF, ih h.2]
    split
    · rw [u2_ne (by omega), u2_ne (by omega)]
    · rw [u2_ne (by omega)]
theorem fdF_nm {e : TB} {j : Nat} : ∀ {O : List Nat} {s : Int32} {h : Nat → Int32}, j ∉ O → (fdF e O s h).2 j = h j := by
  intro O
  induction O with
  | nil => intro s h _; rfl
  | cons c O ih =>
    intro s h hj
    rw [List.mem_cons, not_or] at hj
    rw [fdF]
    split
    · rw [ih hj.2, if_neg hj.1]
    · rw [ih hj.2, if_neg hj.1]
theorem hoS_ne {e : TB} {nc i : Nat} {D : TB} {k j : Nat} (h : k = 0 ∨ k = 4 ∨ k = 5 ∨ k = 6 ∨ k = 8 ∨ (k = 7 ∧ j ≠ i)) : hoS e nc D i k j = D k j := by
  unfold hoS
  rw [if_neg (by omega), if_neg (by omega), rmF_ne (by omega)]
/-- nothing but the rooms, hunger and lateness of the day, and the store of inn i -/
def hF (i d : Nat) (σ τ : PS) : Prop := ∀ k j, (j = d → ¬ (51 ≤ k ∧ k ≤ 56) ∧ ¬ (58 ≤ k ∧ k ≤ 63) ∧ ¬ (65 ≤ k ∧ k ≤ 70) ∧ k ≠ 93 + i) → gi τ k j = gi σ k j
theorem host102_ok {e : TB} {i d nc : Nat} {rm : Nat → Int32} {O : List Nat} (hi : i < 8) (hd : d < 60) (hnc : nc ≤ 6) (hO6 : O.length ≤ 6) (hOc : ∀ c ∈ O, c < nc) : ∀ (Rm Pre : List Nat) (m : Nat) (s : Int32) (h : Nat → Int32) (D1 : TB) (σ : PS), O = Pre ++ Rm → gi σ 107 2 = nI O.length → (∀ j, j < O.length → gi σ 108 j = nI (O.getD j 0)) → (∀ c ∈ O, gi σ 110 c = rm c) → (∀ c, c < 6 → gi σ 18 c = e 18 c) → (∀ c, c < nc → gi σ (51 + c) d = D1 1 c ∧ gi σ (65 + c) d = D1 3 c ∧ gi σ (58 + c) d = h c) → hO (fX1_host_102 (m + Rm.length + 1) (nI i) (nI d) s (nI Pre.length) σ) (fun τ => (∀ c, c < nc → gi τ (51 + c) d = rmF rm Rm D1 1 c ∧ gi τ (65 + c) d = rmF rm Rm D1 3 c ∧ gi τ (58 + c) d = (fdF e Rm s h).2 c) ∧ gi τ (93 + i) d = (fdF e Rm s h).1 ∧ hF i d σ τ) := by
  intro Rm
  induction Rm with
  | nil =>
    intro Pre m s h D1 σ hEq h2 h108 h110 h18 hR
    rw [List.append_nil] at hEq
    subst hEq
    rw [fX1_host_102, h2, if_pos (nI_le (Nat.le_refl _) (by omega)), gd_t (inb_nI hi (by decide)), gd_t (inb_nI hd (by decide)), r92 (by omega), nI_clamp (by omega)]
    refine ⟨_, rfl, fun c hc => ?_, gi_eq, fun k j hk => ?_⟩
    · rw [gi_ne (by omega), gi_ne (by omega), gi_ne (by omega)]
      exact hR c hc
    · by_cases hj : j = d
      · rw [gi_ne (hk hj).2.2.2]
      · by_cases hkk : k = 93 + i
        · subst hkk; rw [gi_nj hj]
        · rw [gi_ne hkk]
  | cons c Rm ih =>
    intro Pre m s h D1 σ hEq h2 h108 h110 h18 hR
    have hlen : O.length = Pre.length + (Rm.length + 1) := by rw [hEq]; simp
    have hk : Pre.length < O.length := by omega
    have hget : O.getD Pre.length 0 = c := by rw [hEq, gD_a2 (Nat.le_refl _)]; simp
    have hcO : c ∈ O := by rw [hEq]; simp
    have hcn := hOc c hcO
    have hO2 : O = (Pre ++ [c]) ++ Rm := by rw [hEq]; simp
    have g6 : inb (nI c) 6 = true := inb_nI (by omega) (by decide)
    have g60 : inb (nI d) 60 = true := inb_nI hd (by decide)
    obtain ⟨r1, r2, r3⟩ := hR c hcn
    rw [List.length_cons, show m + (Rm.length + 1) + 1 = (m + Rm.length + 1) + 1 by omega, fX1_host_102, h2, if_neg (nI_ge hk (by omega)), gd_t (inb_nI (by omega) (by decide)), nI_clamp (show Pre.length < 2 ^ 31 by omega), h108 _ hk, hget, nI_clamp (show c < 2 ^ 31 by omega), nI_clamp (show d < 2 ^ 31 by omega), h110 c hcO, r50 (show c < 2 ^ 31 by omega), r64 (show c < 2 ^ 31 by omega)]
    simp only [gd_t g6, gd_t g60]
    rw [gi_eq, gi_ne (show 65 + c ≠ 51 + c by omega), r2]
    -- the second half, from any state that has the room and the lateness
    have half : ∀ (D2 : TB) (τ : PS), (∀ c', c' < nc → gi τ (51 + c') d = D2 1 c' ∧ gi τ (65 + c') d = D2 3 c' ∧ gi τ (58 + c') d = h c') → (∀ k j, (j = d → k ≠ 51 + c ∧ k ≠ 65 + c) → gi τ k j = gi σ k j) → hO (fX1_host_171 (fX1_host_102 (m + Rm.length + 1)) (nI i) (nI d) s (nI Pre.length) (nI c) τ) (fun τ => (∀ c', c' < nc → gi τ (51 + c') d = rmF rm Rm D2 1 c' ∧ gi τ (65 + c') d = rmF rm Rm D2 3 c' ∧ gi τ (58 + c') d = (fdF e (c :: Rm) s h).2 c') ∧ gi τ (93 + i) d = (fdF e (c :: Rm) s h).1 ∧ hF i d σ τ) := by
      intro D2 τ hT fT
      unfold fX1_host_171 fX1_host_224
      simp only [gd_t g6, gd_t g60]
      rw [nI_clamp (show c < 2 ^ 31 by omega), nI_clamp (show d < 2 ^ 31 by omega), r57 (show c < 2 ^ 31 by omega), fT 18 c (fun _ => by omega), h18 c (by omega), (hT c hcn).2.2, nI_1, fdF]
      have go : ∀ (v s' : Int32) (h' : Nat → Int32), (∀ c', h' c' = if c' = c then v else h c') → hO (fX1_host_102 (m + Rm.length + 1) (nI i) (nI d) s' (nI (Pre.length + 1)) (sI τ (58 + c) d v)) (fun τ => (∀ c', c' < nc → gi τ (51 + c') d = rmF rm Rm D2 1 c' ∧ gi τ (65 + c') d = rmF rm Rm D2 3 c' ∧ gi τ (58 + c') d = (fdF e Rm s' h').2 c') ∧ gi τ (93 + i) d = (fdF e Rm s' h').1 ∧ hF i d σ τ) := by
        intro v s' h' hh
        rw [show nI (Pre.length + 1) = nI (Pre ++ [c]).length by simp]
        refine (ih (Pre ++ [c]) m s' h' D2 _ hO2 ?_ (fun j hj => ?_) (fun c' hc' => ?_) (fun c' hc' => ?_) (fun c' hc' => ?_)).mono (fun ω hω => ⟨hω.1, hω.2.1, fun k j hk => ?_⟩)
        · rw [gi_ne (by omega), fT _ _ (fun _ => by omega)]; exact h2
        · rw [gi_ne (by omega), fT _ _ (fun _ => by omega)]; exact h108 j hj
        · rw [gi_ne (by omega), fT _ _ (fun _ => by omega)]; exact h110 c' hc'
        · rw [gi_ne (by omega), fT _ _ (fun _ => by omega)]; exact h18 c' hc'
        · obtain ⟨a1, a2, a3⟩ := hT c' hc'
          refine ⟨by rw [gi_ne (by omega)]; exact a1, by rw [gi_ne (by omega)]; exact a2, ?_⟩
          rw [hh]
          by_cases hcc : c' = c
          · rw [if_pos hcc, hcc, gi_eq]
          · rw [if_neg hcc, gi_ne (by omega)]; exact a3
        · rw [hω.2.2 k j hk]
          by_cases hj : j = d
          · have := hk hj
            rw [gi_ne (by omega), fT _ _ (fun _ => by omega)]
          · by_cases hkk : k = 58 + c
            · subst hkk; rw [gi_nj hj, fT _ _ (fun q => absurd q hj)]
            · rw [gi_ne hkk, fT _ _ (fun q => absurd q hj)]
      by_cases hs : s < e 18 c
      · rw [if_pos hs, if_pos hs]
        exact go _ _ _ (fun c' => rfl)
      · rw [if_neg hs, if_neg hs]
        exact go _ _ _ (fun c' => rfl)
    rw [rmF]
    by_cases hm : rm c = -1
    · rw [if_pos hm, if_pos hm]
      refine half _ _ (fun c' hc' => ?_) (fun k j hk => ?_)
      · obtain ⟨a1, a2, a3⟩ := hR c' hc'
        by_cases hcc : c' = c
        · subst hcc
          refine ⟨?_, ?_, ?_⟩
          · rw [gi_ne (by omega), gi_eq, u2_ne (by omega), u2_eq]
          · rw [gi_eq, u2_eq]
          · rw [gi_ne (by omega), gi_ne (by omega)]; exact a3
        · refine ⟨?_, ?_, ?_⟩
          · rw [gi_ne (by omega), gi_ne (by omega), u2_ne (by omega), u2_ne (by omega)]; exact a1
          · rw [gi_ne (by omega), gi_ne (by omega), u2_ne (by omega), u2_ne (by omega)]; exact a2
          · rw [gi_ne (by omega), gi_ne (by omega)]; exact a3
      · by_cases hj : j = d
        · have := hk hj
          rw [gi_ne (by omega), gi_ne (by omega)]
        · simp only [gi_sI, if_neg hj, ite_self]
    · rw [if_neg hm, if_neg hm]
      refine half _ _ (fun c' hc' => ?_) (fun k j hk => ?_)
      · obtain ⟨a1, a2, a3⟩ := hR c' hc'
        by_cases hcc : c' = c
        · subst hcc
          refine ⟨?_, ?_, ?_⟩
          · rw [gi_eq, u2_eq]
          · rw [gi_ne (by omega), u2_ne (by omega)]; exact a2
          · rw [gi_ne (by omega)]; exact a3
        · refine ⟨?_, ?_, ?_⟩
          · rw [gi_ne (by omega), u2_ne (by omega)]; exact a1
          · rw [gi_ne (by omega), u2_ne (by omega)]; exact a2
          · rw [gi_ne (by omega)]; exact a3
      · by_cases hj : j = d
        · have := hk hj
          rw [gi_ne (by omega)]
        · simp only [gi_sI, if_neg hj, ite_self]
theorem OR_get {σ : PS} {rk : Nat → Int32} {L : List Nat} (h : OR σ rk L) : ∀ j, j < L.reverse.length → gi σ 108 j = nI (L.reverse.getD j 0) := by
  intro j hj
  rw [List.length_reverse] at hj
  rw [stk_get h.1 j (by simpa using hj), ← List.map_reverse]
  rw [gD_get (by simpa using hj), gD_get (by simpa using hj), List.getElem_map]
/-- nothing but what an inn's evening writes -/
def hG (i d : Nat) (σ τ : PS) : Prop := ∀ k j, ¬ (107 ≤ k ∧ k ≤ 115) → (j = d → ¬ (51 ≤ k ∧ k ≤ 56) ∧ ¬ (58 ≤ k ∧ k ≤ 63) ∧ ¬ (65 ≤ k ∧ k ≤ 70) ∧ k ≠ 93 + i) → gi τ k j = gi σ k j
theorem host_ok {e : TB} {i d na nc : Nat} {D : TB} {σ : PS} (hL : LE e na nc) (hi : i < na) (hd : d < 60) (hE : ∀ k, 3 ≤ k → k ≤ 24 → ∀ j, gi σ k j = e k j) (hR : ∀ c, c < nc → CR σ c d D) (hV : pv σ d 7 i = D 7 i) : hO (fX1_host (nI i) (nI d) σ) (fun τ => (∀ c, c < nc → CR τ c d (hoS e nc D i)) ∧ gi τ (93 + i) d = hoS e nc D i 7 i ∧ hG i d σ τ) := by
  obtain ⟨L1, L2, L3, L4, L5, L6⟩ := hL
  unfold fX1_host fX3_open
  simp only [Option.bind_some]
  generalize hσ1 : sI (sI σ 107 1 (nI i)) 107 2 0 = σ1
  have s1 : ∀ k j, k ≠ 107 → gi σ1 k j = gi σ k j := fun k j hk => by rw [← hσ1, gi_ne hk, gi_ne hk]
  have s107 : gi σ1 107 1 = nI i := by rw [← hσ1, gi_nj (by decide), gi_eq]
  obtain ⟨m, hm⟩ := FU_k (nc + 1) (by omega)
  rw [hm]
  refine host10_ok (D := D) hd L2 nc m 0 σ1 (by omega) (by rw [s1 _ _ (by decide), hE 3 (by decide) (by decide)]; exact L4) (fun c hc => by rw [s1 _ _ (by omega), s1 _ _ (by omega)]; exact ⟨(hR c hc).1, (hR c hc).2.2.2.2.2.1⟩) ⟨trivial, trivial, by rw [← hσ1, gi_eq]; rfl⟩ ?_
  intro τ hT hOR
  have t1 : ∀ k j, k ≠ 107 → k ≠ 108 → k ≠ 109 → gi τ k j = gi σ k j := fun k j a b c => by rw [hT k j b c (by omega), s1 _ _ a]
  have hOl : (ordS D i nc).length ≤ nc := ordS_len D i nc
  have hOc : ∀ c ∈ ordS D i nc, c < nc := fun c h => (mem_ordS.mp h).1
  obtain ⟨R, hR7, -, hR3⟩ := (L5 i hi).2.2.2.1
  have hE1 : layE e i R τ := by
    refine ⟨⟨?_, ?_, fun c hc => ?_, fun r hr => ?_⟩, fun c hc => ?_, ?_⟩
    · rw [hT 107 1 (by decide) (by decide) (by decide)]; exact s107
    · rw [t1 _ _ (by decide) (by decide) (by decide), hE 7 (by decide) (by decide), hR7]
    · rw [t1 _ _ (by decide) (by decide) (by decide), t1 _ _ (by decide) (by decide) (by decide), hE 17 (by decide) (by decide), hE 19 (by decide) (by decide)]
      exact ⟨rfl, rfl⟩
    · rw [t1 _ _ (by omega) (by omega) (by omega), hE (9 + i) (by omega) (by omega)]
    · rw [t1 _ _ (by decide) (by decide) (by decide), hE 18 (by decide) (by decide)]
    · rw [t1 _ _ (by decide) (by decide) (by decide), hE 5 (by decide) (by decide)]
  refine (lay_ok (by omega) hR3 (by omega) (fun c h => by have := hOc c h; omega) (nodup_ordS nc) hE1 hOR).then ?_
  rintro υ ⟨⟨u110, u107⟩, uF⟩
  have u1 : ∀ k j, ¬ (107 ≤ k ∧ k ≤ 115) → gi υ k j = gi σ k j := fun k j hk => by rw [uF.1 k (by unfold SX3_lay inS; simp; omega), t1 _ _ (by omega) (by omega) (by omega)]
  -- the loop over the guests, from the store s
  have fin : ∀ s0 : Int32, s0 = pv σ d 7 i → hO (fX1_host_80 (nI i) (nI d) s0 υ) (fun τ => (∀ c, c < nc → CR τ c d (hoS e nc D i)) ∧ gi τ (93 + i) d = hoS e nc D i 7 i ∧ hG i d σ τ) := by
    intro s0 hs0
    unfold fX1_host_80
    rw [gd_t (inb_nI (by omega) (by decide)), nI_clamp (by omega), u1 _ _ (by decide), hE 6 (by decide) (by decide), hs0, hV]
    obtain ⟨m2, hm2⟩ := FU_k ((ordS D i nc).reverse.length + 1) (by rw [List.length_reverse]; omega)
    rw [hm2]
    have h107 : gi υ 107 2 = nI (ordS D i nc).reverse.length := by rw [u107 2 (by decide), hOR.2.2, List.length_reverse]
    have h108 : ∀ j, j < (ordS D i nc).reverse.length → gi υ 108 j = nI ((ordS D i nc).reverse.getD j 0) := fun j hj => by
      rw [uF.1 108 (by decide)]
      exact OR_get hOR j hj
    refine (host102_ok (e := e) (rm := rmS (layS e i R (ordS D i nc).reverse [] [] 0)) (O := (ordS D i nc).reverse) (by omega) hd L2 (by rw [List.length_reverse]; omega) (fun c h => hOc c (List.mem_reverse.mp h)) (ordS D i nc).reverse [] m2 (imin 200 (D 7 i + e 6 i)) (D 2) D υ rfl h107 h108 u110 (fun c hc => by rw [u1 _ _ (by decide), hE 18 (by decide) (by decide)]) (fun c hc => ?_)).mono (fun ω hω => ?_)
    · rw [u1 _ _ (by omega), u1 _ _ (by omega), u1 _ _ (by omega)]
      obtain ⟨r0, r1, r2, r3, r4, r5, r6⟩ := hR c hc
      exact ⟨r1, r3, r2⟩
    · obtain ⟨w1, w2, w3⟩ := hω
      have hRR : (e 7 i).toNatClampNeg = R := by rw [hR7, nI_clamp (by omega)]
      have same : ∀ k, k ≤ 6 → ∀ c, c < nc → k = 0 ∨ k = 4 ∨ k = 5 ∨ k = 6 → gi ω (44 + 7 * k + c) d = gi σ (44 + 7 * k + c) d := by
        intro k hk c hc hkk
        rw [w3 _ _ (fun _ => by omega), u1 _ _ (by omega)]
      refine ⟨fun c hc => ?_, ?_, fun k j h1 h2 => ?_⟩
      · obtain ⟨r0, r1, r2, r3, r4, r5, r6⟩ := hR c hc
        obtain ⟨a1, a3, a2⟩ := w1 c hc
        refine ⟨?_, ?_, ?_, ?_, ?_, ?_, ?_⟩
        · rw [hoS_ne (by omega)]; exact (same 0 (by omega) c hc (by omega)).trans r0
        · rw [a1]; unfold hoS; rw [if_neg (by decide), if_neg (by omega), hRR]
        · rw [a2]; unfold hoS; rw [if_pos rfl]
        · rw [a3]; unfold hoS; rw [if_neg (by decide), if_neg (by omega), hRR]
        · rw [hoS_ne (by omega)]; exact (same 4 (by omega) c hc (by omega)).trans r4
        · rw [hoS_ne (by omega)]; exact (same 5 (by omega) c hc (by omega)).trans r5
        · rw [hoS_ne (by omega)]; exact (same 6 (by omega) c hc (by omega)).trans r6
      · rw [w2]; unfold hoS; rw [if_neg (by decide), if_pos ⟨rfl, rfl⟩]
      · rw [w3 k j h2, u1 k j h1]
  cases d with
  | zero =>
    rw [if_pos nI_0]
    exact fin 0 rfl
  | succ d =>
    rw [if_neg (nI_ne0 (by omega) (by omega)), nI_pred, gd_t (inb_nI (by omega) (by decide)), gd_t (inb_nI (by omega) (by decide)), r92 (by omega), nI_clamp (by omega), u1 _ _ (by omega)]
    exact fin _ rfl
theorem hosS_ne {e : TB} {nc : Nat} {D : TB} {k j : Nat} : ∀ {n : Nat}, (k = 0 ∨ k = 4 ∨ k = 5 ∨ k = 6 ∨ k = 8 ∨ (k = 7 ∧ n ≤ j)) → hosS e nc D n k j = D k j := by
  intro n
  induction n with
  | zero => intro _; rfl
  | succ n ih =>
    intro h
    show hoS e nc (hosS e nc D n) n k j = _
    rw [hoS_ne (by omega), ih (by omega)]
theorem hosts_ok {b : Nat} {e : TB} {d na nc : Nat} {D : TB} (hL : LE e na nc) (hd : d < 60) : ∀ (q m i : Nat) (σ : PS), i + q = na → (∀ k, 3 ≤ k → k ≤ 24 → ∀ j, gi σ k j = e k j) → (∀ c, c < nc → CR σ c d (hosS e nc D i)) → LR σ d D → (∀ i', i' < i → gi σ (93 + i') d = hosS e nc D i 7 i') → (∀ i', i ≤ i' → i' < na → pv σ d 7 i' = D 7 i') → hO (fX1_evening_95 b (m + q + 1) (nI d) (nI i) σ) (fun τ => (∀ c, c < nc → CR τ c d (hosS e nc D na)) ∧ LR τ d (hosS e nc D na) ∧ (∀ i', i' < na → gi τ (93 + i') d = hosS e nc D na 7 i') ∧ dF d σ τ) := by
  have L1 := hL.1
  have L2 := hL.2.1
  intro q
  induction q with
  | zero =>
    intro m i σ hq hE hR hG hI hV
    have : i = na := by omega
    subst this
    rw [fX1_evening_95, hE 3 (by decide) (by decide), hL.2.2.1, if_pos (nI_le (Nat.le_refl _) (by omega))]
    exact ⟨_, rfl, hR, fun l hl => by rw [hosS_ne (by omega)]; exact hG l hl, hI, dF.rf⟩
  | succ q ih =>
    intro m i σ hq hE hR hG hI hV
    rw [show m + (q + 1) + 1 = (m + q + 1) + 1 by omega, fX1_evening_95, hE 3 (by decide) (by decide), hL.2.2.1, if_neg (nI_ge (by omega) (by omega)), nI_1]
    refine (host_ok hL (by omega) hd hE hR (by rw [hosS_ne (by omega)]; exact hV i (by omega) (by omega))).then ?_
    rintro τ ⟨t1, t2, t3⟩
    have f1 : dF d σ τ := fun k j h1 h2 h3 h4 h5 => t3 k j h4 (fun hj => by have := h5 hj; omega)
    refine (ih m (i + 1) τ (by omega) (fun k h1 h2 j => by rw [t3 k j (by omega) (fun _ => by omega)]; exact hE k h1 h2 j) t1 (fun l hl => by rw [t3 _ _ (by omega) (fun _ => by omega)]; exact hG l hl) (fun i' hi' => ?_) (fun i' h1 h2 => ?_)).mono (fun a ha => ⟨ha.1, ha.2.1, ha.2.2.1, f1.tr ha.2.2.2⟩)
    · by_cases hii : i' = i
      · subst hii; exact t2
      · show _ = hoS e nc (hosS e nc D i) i 7 i'
        rw [t3 _ _ (by omega) (fun _ => by omega), hoS_ne (by omega)]
        exact hI i' (by omega)
    · rw [pv_congr (σ := σ) (fun h0 => t3 _ _ (by unfold cl; rw [if_neg (by decide)]; omega) (fun hj => by omega))]
      exact hV i' (by omega) h2
