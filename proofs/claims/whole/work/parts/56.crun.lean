/-! the class's evaluation of a rule -/
theorem bk_or {b : Nat} (hb : isBk b = true) : b = 116 ∨ b = 124 := bk_of hb
theorem bk_fr {b : Nat} (hb : isBk b = true) {σ τ : PS} (h : FRM SX5_run σ τ) (i : Nat) (hi : i ≤ 6) (j : Nat) : gi τ (b + i) j = gi σ (b + i) j := by
  refine h.1 _ ?_ j
  unfold SX5_run inS
  rcases bk_or hb with rfl | rfl <;> simp <;> omega
theorem stk_last {f : Nat → Int32} {a : Int32} {s : List Int32} (h : stk f (a :: s)) : f 0 = (a :: s).getLastD 0 := by
  induction s generalizing a with
  | nil => exact h.1
  | cons c s ih => rw [ih h.2]; rfl
theorem run_142_ok {b : Nat} {s : List Int32} {σ : PS} (hs : stk (gi σ (b + 7)) s) (hl : s.length ≤ 32) : hO (fX5_run_142 b (nI s.length) σ) (fun q => q.1 = s.getLastD 0) := by
  unfold fX5_run_142
  cases s with
  | nil =>
    rw [if_pos (by decide)]
    exact ⟨_, rfl, rfl⟩
  | cons a s =>
    rw [if_neg (nI_nle (by simp) (by simp only [List.length_cons] at hl ⊢; omega)), gd_t (by decide)]
    exact ⟨_, rfl, stk_last hs⟩
theorem run_push {b : Nat} (hb : isBk b = true) {σ : PS} {s : List Int32} {x : Int32} (hs : stk (gi σ (b + 7)) s) : stk (gi (sI σ (b + 7) s.length x) (b + 7)) (x :: s) := by
  refine ⟨gi_eq, stk_congr (fun j hj => ?_) hs⟩
  rw [gi_nj (by omega)]
theorem run_ok {b : Nat} (hb : isBk b = true) (v : Nat → Int32) : ∀ (l s : List Int32) (p m : Nat) (σ : PS), dpC s.length l → s.length ≤ 32 → sgL (gi σ (b + 6)) p l → p + l.length ≤ 400 → stk (gi σ (b + 7)) s → (∀ k, k < 8 → gi σ 42 k = v k) → hO (fX5_run_10 b (m + l.length + 1) (nI (p + l.length)) (nI s.length) (nI p) σ) (fun q => q.1 = (evC v l s).getLastD 0) := by
  intro l
  have h42 : b + 7 ≠ 42 := by rcases bk_or hb with rfl | rfl <;> decide
  induction l with
  | nil =>
    intro s p m σ hd hl hg hp hs hv
    rw [fX5_run_10, if_pos (nI_le (by simp) (by simp only [List.length_nil] at hp ⊢; omega))]
    exact run_142_ok hs hl
  | cons x l ih =>
    intro s p m σ hd hl hg hp hs hv
    simp only [List.length_cons] at hp ⊢
    rw [show m + (l.length + 1) + 1 = (m + l.length + 1) + 1 by omega, fX5_run_10, if_neg (nI_ge (by omega) (by omega)), if_neg (l_nle (k := 400) (by rfl) (by omega) (by decide)), gd_t (inb_nI (by omega) (by omega)), nI_clamp (by omega), hg.1, show p + (l.length + 1) = (p + 1) + l.length by omega]
    simp only [dpC] at hd
    simp only [evC]
    by_cases h0 : 0 ≤ x
    · rw [if_pos h0, if_pos h0]
      have hp1 : psh x = true := by unfold psh; rw [decide_eq_true h0]; rfl
      rw [if_pos hp1] at hd
      unfold fX5_run_57
      rw [if_neg (l_nle (k := 32) (by rfl) hd.1 (by decide)), if_neg (Int32.not_lt.mpr h0)]
      unfold fX5_run_84
      rw [gd_t (inb_nI hd.1 (by decide)), nI_clamp (by omega)]
      unfold fX5_run_136
      rw [nI_1, nI_1]
      exact ih (x :: s) (p + 1) m _ hd.2 (by simp only [List.length_cons]; omega) (sgL_congr (fun j _ _ => gi_ne (by omega)) hg.2) (by omega) (run_push hb hs) (fun k hk => by rw [gi_ne (by omega)]; exact hv k hk)
    · rw [if_neg h0, if_neg h0, isWithin_eq]
      show hO (if tv _ = 0 then _ else _) _
      rw [ite_tv]
      by_cases h1 : 0 ≤ -x - 9 ∧ -x - 9 ≤ 7
      · rw [if_pos h1, if_pos h1]
        have hp1 : psh x = true := by unfold psh; rw [decide_eq_true h1, Bool.or_true]
        rw [if_pos hp1] at hd
        obtain ⟨j, hj, hk1, hk2⟩ := (isN_of (lo := 0) (hi := 7) rfl rfl (by decide) (by decide)).mp h1
        rw [hj]
        unfold fX5_run_57
        rw [if_neg (l_nle (k := 32) (by rfl) hd.1 (by decide)), if_pos (Int32.not_le.mp h0)]
        unfold fX5_run_84
        rw [gd_t (inb_nI (by omega) (by decide)), gd_t (inb_nI hd.1 (by decide)), nI_clamp (by omega), nI_clamp (by omega)]
        unfold fX5_run_136
        rw [nI_1, nI_1, hv j (by omega)]
        exact ih (v j :: s) (p + 1) m _ hd.2 (by simp only [List.length_cons]; omega) (sgL_congr (fun j _ _ => gi_ne (by omega)) hg.2) (by omega) (run_push hb hs) (fun k hk => by rw [gi_ne (by omega)]; exact hv k hk)
      · rw [if_neg h1, if_neg h1, isWithin_eq]
        show hO (if tv _ = 0 then _ else _) _
        have hp1 : psh x = false := by unfold psh; rw [decide_eq_false h1, decide_eq_false h0]; rfl
        rw [hp1, if_neg (by decide)] at hd
        rw [ite_tv, if_pos (show (2 : Int32) ≤ nI s.length ∧ nI s.length ≤ 32 from (isN_of (lo := 2) (hi := 32) rfl rfl (by decide) (by decide)).mpr ⟨s.length, rfl, hd.1, hd.2.1⟩)]
        match s, hd, hs, hl with
        | c :: a :: s, hd, hs, hl =>
          simp only [List.length_cons] at hd hl ⊢
          have e1 : nI (s.length + 1 + 1) + (-1) = nI (s.length + 1) := nI_a1 (by omega)
          have e2 : nI (s.length + 1) - 1 = nI s.length := nI_pred _
          rw [e1, e2, gd_t (inb_nI (by omega) (by decide)), gd_t (inb_nI (by omega) (by decide)), nI_clamp (by omega), nI_clamp (by omega), hs.2.1, show gi σ (b + 7) (s.length + 1) = c from hs.1, apply_eq]
          show hO (gd _ _) _
          rw [gd_t (inb_nI (by omega) (by decide))]
          unfold fX5_run_136
          rw [nI_1]
          exact ih (apC (-x) a c :: s) (p + 1) m _ hd.2.2 (by simp only [List.length_cons]; omega) (sgL_congr (fun j _ _ => gi_ne (by omega)) hg.2) (by omega) (run_push hb hs.2.2) (fun k hk => by rw [gi_ne (by omega)]; exact hv k hk)
theorem imax0 {p : Nat} (h : p < 2 ^ 31) : imax 0 (nI p) = nI p := by
  unfold imax
  cases p with
  | zero => rfl
  | succ p => rw [if_pos (l_lt (k := 0) (by rfl) (by omega) h)]
theorem run_all {b : Nat} (hb : isBk b = true) (v : Nat → Int32) (l : List Int32) (p : Nat) (σ : PS) (h1 : dpC 0 l) (h2 : sgL (gi σ (b + 6)) p l) (h3 : p + l.length ≤ 400) (h4 : ∀ k, k < 8 → gi σ 42 k = v k) : hO (fX5_run b (nI p) (nI (p + l.length)) σ) (fun q => q.1 = (evC v l []).getLastD 0 ∧ FRM SX5_run σ q.2) := by
  refine hO.and ?_ (fun a e => frX5_run hb _ _ _ _ e)
  unfold fX5_run
  rw [imax0 (by omega)]
  obtain ⟨m, hm⟩ := FU_k (l.length + 1) (by omega)
  rw [hm]
  exact run_ok hb v l [] p m σ h1 (by simp) h2 h3 trivial h4
/-- a rule in the class's book -/
def ruC (σ : PS) (b k : Nat) (r : RU) : Prop := gi σ (b + 1) k = nI (3 + r.1) ∧ gi σ (b + 2) k = r.2.1 ∧ ∃ p, gi σ (b + 3) k = nI p ∧ gi σ (b + 4) k = nI (p + r.2.2.1.length) ∧ gi σ (b + 5) k = nI (p + r.2.2.1.length + (ccS 0 r.2.2.2).length) ∧ p + r.2.2.1.length + (ccS 0 r.2.2.2).length ≤ 400 ∧ sgL (gi σ (b + 6)) p (r.2.2.1.map enI) ∧ sgL (gi σ (b + 6)) (p + r.2.2.1.length) (ccS 0 r.2.2.2)
def wfU (r : RU) : Prop := r.1 ≤ 2 ∧ (r.1 < 2 → wfX r.2.2.1) ∧ (∀ q ∈ r.2.2.2, wfR q) ∧ (∀ h t, r.2.2.2 = h :: t → h.1 = true)
def bkR (σ : PS) (b : Nat) : Nat → List RU → Prop
  | _, [] => True
  | k, r :: l => ruC σ b k r ∧ bkR σ b (k + 1) l
theorem ruC_fr {σ τ : PS} {b k : Nat} {r : RU} (h : ∀ i, i ≤ 6 → ∀ j, gi τ (b + i) j = gi σ (b + i) j) (hr : ruC σ b k r) : ruC τ b k r := by
  obtain ⟨h1, h2, p, h3, h4, h5, h6, h7, h8⟩ := hr
  refine ⟨by rw [h 1 (by omega)]; exact h1, by rw [h 2 (by omega)]; exact h2, p, by rw [h 3 (by omega)]; exact h3, by rw [h 4 (by omega)]; exact h4, by rw [h 5 (by omega)]; exact h5, h6, sgL_congr (fun j _ _ => h 6 (by omega) j) h7, sgL_congr (fun j _ _ => h 6 (by omega) j) h8⟩
theorem bkR_fr {σ τ : PS} {b : Nat} (h : ∀ i, i ≤ 6 → ∀ j, gi τ (b + i) j = gi σ (b + i) j) {l : List RU} : ∀ {k : Nat}, bkR σ b k l → bkR τ b k l := by
  induction l with
  | nil => intro k _; trivial
  | cons r l ih => intro k hr; exact ⟨ruC_fr h hr.1, ih hr.2⟩
theorem enR_len (r : RE) : 1 ≤ (enR r).length := by
  unfold enR
  simp
  omega
theorem cc_pos (r : RE) (l : List RE) : 1 ≤ (ccS 0 (r :: l)).length := by
  rw [ccS, if_pos rfl, List.length_append]
  have := enR_len r
  omega
/-- does a rule hold, by the class -/
theorem hold_ok {b : Nat} (hb : isBk b = true) (v : Nat → Int32) {σ : PS} {k : Nat} {r : RU} (hr : ruC σ b k r) (hw : wfU r) (h4 : ∀ k, k < 8 → gi σ 42 k = v k) : (gi σ (b + 4) k = gi σ (b + 5) k ∧ hdS v r.2.2.2 = true) ∨ (¬ gi σ (b + 4) k = gi σ (b + 5) k ∧ hO (fX5_run b (gi σ (b + 4) k) (gi σ (b + 5) k) σ) (fun q => q.1 = tb (hdS v r.2.2.2) ∧ FRM SX5_run σ q.2)) := by
  obtain ⟨-, -, p, h3, h4', h5, h6, h7, h8⟩ := hr
  obtain ⟨-, -, hq, ho⟩ := hw
  rw [h4', h5]
  match hl : r.2.2.2, hq, ho, h6, h8 with
  | [], hq, ho, h6, h8 =>
    left
    exact ⟨rfl, rfl⟩
  | c :: l, hq, ho, h6, h8 =>
    right
    have hp := cc_pos c l
    refine ⟨fun e => ?_, ?_⟩
    · have := nIeq_lit e (by omega) (by omega)
      omega
    · have e := evC_cc v hq (ho c l rfl)
      have := run_all hb v (ccS 0 (c :: l)) (p + r.2.2.1.length) σ (dpC_cc hq) h8 h6 h4
      rw [e] at this
      exact this
theorem first_ok {b : Nat} (hb : isBk b = true) (v : Nat → Int32) (s : Nat) (x : Int32) (hs : s ≤ 2) : ∀ (l : List RU) (k m : Nat) (σ : PS), bkR σ b k l → (∀ r ∈ l, wfU r) → k + l.length ≤ 20 → gi σ b 7 = nI (k + l.length) → (∀ k, k < 8 → gi σ 42 k = v k) → hO (fX5_firstThatHolds_3 b (m + l.length + 1) (nI (3 + s)) x (nI k) σ) (fun q => q.1 = (match finS v s x k l with
    | none => (-1 : Int32)
    | some q => nI q.1)) := by
  intro l
  induction l with
  | nil =>
    intro k m σ hr hw hk hn hv
    rw [fX5_firstThatHolds_3, hn, if_pos (nI_le (by simp) (by simp only [List.length_nil] at hk ⊢; omega))]
    exact ⟨_, rfl, rfl⟩
  | cons r l ih =>
    intro k m σ hr hw hk hn hv
    simp only [List.length_cons] at hk hn ⊢
    have ihn := fun (τ : PS) (a1 : ∀ i, i ≤ 6 → ∀ j, gi τ (b + i) j = gi σ (b + i) j) (a2 : ∀ k, k < 8 → gi τ 42 k = v k) => ih (k + 1) m τ (bkR_fr a1 hr.2) (fun r h => hw r (List.mem_cons_of_mem _ h)) (by omega) (by have e := a1 0 (by omega) 7; rw [Nat.add_zero] at e; rw [e, hn]; congr 1; omega) a2
    have hr1 := hr.1
    rw [show m + (l.length + 1) + 1 = (m + l.length + 1) + 1 by omega, fX5_firstThatHolds_3, hn, if_neg (nI_ge (by omega) (by omega)), if_neg (l_nle (k := 20) (by rfl) (by omega) (by decide)), gd_t (inb_nI (by omega) (by omega)), nI_clamp (by omega), hr1.1, hr1.2.1]
    unfold fX5_firstThatHolds_83
    rw [nI_1]
    simp only [finS]
    by_cases h1 : r.1 = s
    · rw [if_pos (by rw [h1]), gd_t (inb_nI (by omega) (by omega))]
      by_cases h2 : r.2.1 = x
      · rw [if_pos h2, gd_t (inb_nI (by omega) (by omega)), gd_t (inb_nI (by omega) (by omega))]
        rcases hold_ok hb v hr1 (hw r List.mem_cons_self) hv with ⟨e, h3⟩ | ⟨e, h3⟩
        · rw [if_pos e, if_pos ⟨h1, h2, h3⟩]
          exact ⟨_, rfl, rfl⟩
        · rw [if_neg e, gd_t (inb_nI (by omega) (by omega)), gd_t (inb_nI (by omega) (by omega))]
          refine h3.then ?_
          rintro ⟨y, τ⟩ ⟨hy, hf⟩
          simp only at hy hf ⊢
          rw [hy, ite_tb]
          by_cases h5 : hdS v r.2.2.2 = true
          · rw [if_pos h5, if_pos ⟨h1, h2, h5⟩]
            exact ⟨_, rfl, rfl⟩
          · rw [if_neg h5, if_neg (fun q => h5 q.2.2)]
            exact ihn τ (fun i hi j => bk_fr hb hf i hi j) (fun k hk => by rw [hf.1 42 (by decide)]; exact hv k hk)
      · rw [if_neg h2, if_neg (fun q => h2 q.2.1)]
        exact ihn σ (fun _ _ _ => rfl) hv
    · rw [if_neg (fun q => h1 (by have := nIeq_lit q (by have := (hw r List.mem_cons_self).1; omega) (by omega); omega)), if_neg (fun q => h1 q.1)]
      exact ihn σ (fun _ _ _ => rfl) hv
theorem finS_mem {v : Nat → Int32} {s : Nat} {x : Int32} {l : List RU} : ∀ {k : Nat} {q : Nat × RU}, finS v s x k l = some q → k ≤ q.1 ∧ q.1 < k + l.length ∧ l[q.1 - k]? = some q.2 ∧ q.2.1 = s := by
  induction l with
  | nil => intro k q h; cases h
  | cons r l ih =>
    intro k q h
    simp only [finS] at h
    by_cases hc : r.1 = s ∧ r.2.1 = x ∧ hdS v r.2.2.2 = true
    · rw [if_pos hc] at h
      cases h
      exact ⟨Nat.le_refl _, by simp, by simp, hc.1⟩
    · rw [if_neg hc] at h
      have := ih h
      simp only [List.length_cons]
      refine ⟨by omega, by omega, ?_, this.2.2.2⟩
      rw [show q.1 - k = (q.1 - (k + 1)) + 1 by omega, List.getElem?_cons_succ]
      exact this.2.2.1
theorem bkR_get {σ : PS} {b : Nat} {l : List RU} : ∀ {k i : Nat} {r : RU}, bkR σ b k l → l[i]? = some r → ruC σ b (k + i) r := by
  induction l with
  | nil => intro k i r _ h; simp at h
  | cons a l ih =>
    intro k i r hb h
    cases i with
    | zero => simp at h; subst h; exact hb.1
    | succ i =>
      rw [List.getElem?_cons_succ] at h
      have := ih hb.2 h
      rw [show k + (i + 1) = k + 1 + i by omega]
      exact this
/-- the class's book b holds the rules l -/
def BKC (σ : PS) (b : Nat) (l : List RU) : Prop := l.length ≤ 20 ∧ gi σ b 7 = nI l.length ∧ bkR σ b 0 l ∧ ∀ r ∈ l, wfU r
theorem BKC_fr {σ τ : PS} {b : Nat} {l : List RU} (h : ∀ i, i ≤ 6 → ∀ j, gi τ (b + i) j = gi σ (b + i) j) (hb : BKC σ b l) : BKC τ b l := ⟨hb.1, by have := h 0 (by omega) 7; rw [Nat.add_zero] at this; rw [this]; exact hb.2.1, bkR_fr h hb.2.2.1, hb.2.2.2⟩
theorem bar_ok {b : Nat} (hb : isBk b = true) (v : Nat → Int32) (x : Int32) {l : List RU} {σ : PS} (h : BKC σ b l) (hv : ∀ k, k < 8 → gi σ 42 k = v k) : hO (fX5_firstThatHolds b 5 x σ) (fun q => q.1 = barS l x v ∧ FRM SX5_run σ q.2) := by
  refine hO.and ?_ (fun a e => frX5_firstThatHolds hb _ _ _ _ e)
  unfold fX5_firstThatHolds
  obtain ⟨m, hm⟩ := FU_k (l.length + 1) (by have := h.1; omega)
  rw [hm]
  have := first_ok hb v 2 x (by decide) l 0 m σ h.2.2.1 h.2.2.2 (by have := h.1; omega) (by rw [h.2.1, Nat.zero_add]) hv
  exact this
theorem val_ok {b : Nat} (hb : isBk b = true) (v : Nat → Int32) (s : Nat) (hs : s ≤ 1) (x : Int32) {l : List RU} {σ : PS} (h : BKC σ b l) (hv : ∀ k, k < 8 → gi σ 42 k = v k) : hO (fX5_value b (nI (3 + s)) x σ) (fun q => q.1 = sayS l s x v ∧ FRM SX5_run σ q.2) := by
  refine hO.and ?_ (fun a e => frX5_value hb _ _ _ _ e)
  unfold fX5_value fX5_firstThatHolds
  obtain ⟨m, hm⟩ := FU_k (l.length + 1) (by have := h.1; omega)
  rw [hm]
  have h1 := first_ok hb v s x (by omega) l 0 m σ h.2.2.1 h.2.2.2 (by have := h.1; omega) (by rw [h.2.1, Nat.zero_add]) hv
  have h2 : hO (fX5_firstThatHolds_3 b (m + l.length + 1) (nI (3 + s)) x (nI 0) σ) (fun q => _ ∧ FRM SX5_firstThatHolds σ q.2) := h1.and (fun a e => frX5_firstThatHolds hb (nI (3 + s)) x σ a (by unfold fX5_firstThatHolds; rw [hm]; exact e))
  refine h2.then ?_
  rintro ⟨y, τ⟩ ⟨hy, hf⟩
  have hf : FRM SX5_run σ τ := hf
  simp only at hy ⊢
  rw [isWithin_eq]
  show hO (if tv _ = 0 then _ else _) _
  rw [ite_tv]
  unfold sayS
  match hq : finS v s x 0 l, hy with
  | none, hy =>
    simp only at hy
    rw [if_neg (by rw [hy]; decide)]
    exact ⟨_, rfl, rfl⟩
  | some q, hy =>
    simp only at hy
    have hm := finS_mem hq
    have hl := h.1
    rw [hy, if_pos (show (0 : Int32) ≤ nI q.1 ∧ nI q.1 ≤ 19 from (isN_of (lo := 0) (hi := 19) rfl rfl (by decide) (by decide)).mpr ⟨q.1, rfl, by omega, by omega⟩), gd_t (inb_nI (by omega) (by omega)), gd_t (inb_nI (by omega) (by omega)), nI_clamp (by omega)]
    have hr := ruC_fr (fun i hi j => bk_fr hb hf i hi j) (bkR_get h.2.2.1 hm.2.2.1)
    rw [Nat.sub_zero, Nat.zero_add] at hr
    obtain ⟨-, -, p, h3, h4, h5, h6, h7, h8⟩ := hr
    have hwx := (h.2.2.2 q.2 (List.mem_of_getElem? hm.2.2.1)).2.1 (by omega)
    rw [h3, h4]
    have hd : dpC 0 (q.2.2.2.1.map enI ++ []) := dpC_items (by omega) hwx.1 (by omega) hwx.2 (m := []) trivial
    rw [List.append_nil] at hd
    have hR := run_all hb v (q.2.2.2.1.map enI) p τ hd h7 (by rw [List.length_map]; omega) (fun k hk => by rw [hf.1 42 (by decide)]; exact hv k hk)
    rw [List.length_map] at hR
    refine hR.then ?_
    rintro ⟨z, υ⟩ ⟨hz, -⟩
    refine ⟨_, rfl, ?_⟩
    simp only at hz ⊢
    have e := evC_items v hwx.1 [] []
    rw [List.append_nil] at e
    rw [hz, e, evI_val v hwx.2]
    rfl
