/-! the class's lay -/
theorem gD_get {α : Type} {l : List α} {d : α} {j : Nat} (h : j < l.length) : l.getD j d = l[j] := by
  rw [List.getD_eq_getElem?_getD, List.getElem?_eq_getElem h]
  rfl
theorem gD_a1 {α : Type} {l m : List α} {d : α} {j : Nat} (h : j < l.length) : (l ++ m).getD j d = l.getD j d := by
  rw [gD_get (show j < (l ++ m).length by rw [List.length_append]; omega), gD_get h, List.getElem_append_left h]
theorem gD_a2 {α : Type} {l m : List α} {d : α} {j : Nat} (h : l.length ≤ j) : (l ++ m).getD j d = m.getD (j - l.length) d := by
  simp only [List.getD_eq_getElem?_getD]
  rw [List.getElem?_append_right h]
theorem nodup_rev {l : List Nat} (h : l.Nodup) : l.reverse.Nodup := List.pairwise_reverse.mpr (List.Pairwise.imp (fun a b => a b.symm) h)
theorem stk_get {f : Nat → Int32} {s : List Int32} (h : stk f s) : ∀ j, j < s.length → f j = s.reverse.getD j 0 := by
  induction s with
  | nil => intro j hj; simp at hj
  | cons a s ih =>
    intro j hj
    simp only [List.length_cons] at hj
    rw [List.reverse_cons]
    by_cases hq : j < s.length
    · rw [ih h.2 j hq, gD_a1 (by simpa using hq)]
    · have : j = s.length := by omega
      subst this
      rw [h.1, gD_a2 (by simp)]
      simp
theorem fitS_len {e : TB} {x R : Nat} : ∀ {cs : List Nat} {st : TB} {t : List Nat}, fitS e x R cs st = some t → t.length = cs.length := by
  intro cs
  induction cs with
  | nil => intro st t h; cases h; rfl
  | cons c cs ih =>
    intro st t h
    rw [fitS] at h
    obtain ⟨r, hr, h⟩ := List.exists_of_findSome?_eq_some h
    split at h
    · cases hf : fitS e x R cs (putS e st r c) with
      | none => rw [hf] at h; cases h
      | some t' =>
        rw [hf] at h
        cases h
        rw [List.length_cons, List.length_cons, ih hf]
    · cases h
def fitQ (τ : PS) (o : Option (List Nat)) (y : Int32) : Prop := match o with
  | none => y = 0
  | some t => y = 1 ∧ ∀ j, j < t.length → gi τ 112 j = nI (t.getD j 0)
theorem fitsAll_ok {e : TB} {x R : Nat} {L : List Nat} {σ : PS} (hx : x < 8) (hRR : R ≤ 3) (hL : L.length ≤ 6) (hc : ∀ c ∈ L, c < 6) (hE : fitE e x R σ) (h111 : ∀ j, j < L.length → gi σ 111 j = nI (L.getD j 0)) : hO (fX3_fitsAll (nI L.length) σ) (fun q => fitQ q.2 (fitS e x R L (fun _ _ => 0)) q.1 ∧ FRM SX3_fitsAll σ q.2) := by
  refine hO.and ?_ (fun a ea => frX3_fitsAll _ _ _ ea)
  have step : ∀ (q m r : Nat) (σ : PS), r + q = 3 → fitE e x R σ → (∀ j, j < L.length → gi σ 111 j = nI (L.getD j 0)) → (∀ r', r' < r → gi σ 113 r' = 0 ∧ gi σ 114 r' = 0) → hO (fX3_fitsAll_2 (m + q + 1) (nI L.length) (nI r) σ) (fun q => fitQ q.2 (fitS e x R L (fun _ _ => 0)) q.1) := by
    intro q
    induction q with
    | zero =>
      intro m r σ hr hE h111 hz
      have : r = 3 := by omega
      subst this
      rw [fX3_fitsAll_2, if_pos (show (3 : Int32) ≤ nI 3 by decide)]
      have hR : RS σ 0 (fun _ _ => 0) := fun r hr => ⟨(hz r hr).1, (hz r hr).2, fun h => absurd rfl h, 0, rfl, Nat.le_refl _, Nat.le_refl _⟩
      have h8 : (8 : Nat) = (7 - L.length) + L.length + 1 := by omega
      rw [h8]
      refine (fits_ok hx hRR hL L 0 (7 - L.length) (fun _ _ => 0) σ (by omega) hc hE (fun j hj => by rw [Nat.zero_add]; exact h111 j hj) hR).then ?_
      rintro ⟨y, τ⟩ hP
      simp only at hP ⊢
      cases hf : fitS e x R L (fun _ _ => 0) with
      | none =>
        rw [hf] at hP
        rw [hP.1, gd_t (by decide)]
        exact ⟨_, rfl, rfl⟩
      | some t =>
        rw [hf] at hP
        rw [hP.1, gd_t (by decide)]
        refine ⟨_, rfl, rfl, fun j hj => ?_⟩
        have := hP.2.2 j hj
        rw [Nat.zero_add] at this
        exact this
    | succ q ih =>
      intro m r σ hr hE h111 hz
      rw [show m + (q + 1) + 1 = (m + q + 1) + 1 by omega, fX3_fitsAll_2, if_neg (l_nle (k := 3) (by rfl) (by omega) (by decide)), gd_t (inb_nI (by omega) (by decide)), gd_t (inb_nI (by omega) (by decide)), nI_clamp (by omega), nI_1]
      have t1 : ∀ k j, k ≠ 113 → k ≠ 114 → gi (sI (sI σ 113 r 0) 114 r 0) k j = gi σ k j := fun k j h1 h2 => by rw [gi_ne h2, gi_ne h1]
      refine ih m (r + 1) _ (by omega) ⟨?_, ?_, fun c hc => ?_, fun r hr => ?_⟩ (fun j hj => ?_) (fun r' hr' => ?_)
      · rw [t1 _ _ (by decide) (by decide)]; exact hE.1
      · rw [t1 _ _ (by decide) (by decide)]; exact hE.2.1
      · rw [t1 _ _ (by decide) (by decide), t1 _ _ (by decide) (by decide)]; exact hE.2.2.1 c hc
      · rw [t1 _ _ (by omega) (by omega)]; exact hE.2.2.2 r hr
      · rw [t1 _ _ (by decide) (by decide)]; exact h111 j hj
      · by_cases hrr : r' = r
        · subst hrr
          rw [gi_ne (by decide), gi_eq, gi_eq]
          exact ⟨rfl, rfl⟩
        · rw [gi_ne (by decide), gi_nj hrr, gi_nj hrr, gi_ne (by decide)]
          exact hz r' (by omega)
  unfold fX3_fitsAll
  obtain ⟨m, hm⟩ := FU_k 4 (by decide)
  rw [hm]
  exact step 3 m 0 σ (by omega) hE h111 (fun _ h => by omega)
theorem getD_mem {l : List Nat} {j : Nat} (h : j < l.length) : l.getD j 0 ∈ l := by
  rw [gD_get h]
  exact List.getElem_mem h
theorem getD_inj {l : List Nat} (hn : l.Nodup) {i j : Nat} (hi : i < l.length) (hj : j < l.length) (h : l.getD i 0 = l.getD j 0) : i = j := by
  rw [gD_get hi, gD_get hj] at h
  have hp := List.pairwise_iff_getElem.mp hn
  by_cases h1 : i < j
  · exact absurd h (hp i j hi hj h1)
  · by_cases h2 : j < i
    · exact absurd h.symm (hp j i hj hi h2)
    · omega
theorem keep_ok {lod tr : List Nat} (hl : lod.length ≤ 6) (hn : lod.Nodup) (hc : ∀ c ∈ lod, c < 6) : ∀ (q m j : Nat) (σ : PS), j + q = lod.length → gi σ 107 6 = nI lod.length → (∀ j, j < lod.length → gi σ 111 j = nI (lod.getD j 0)) → (∀ j, j < lod.length → gi σ 112 j = nI (tr.getD j 0)) → hO (fX3_keepTrial_2 (m + q + 1) (nI j) σ) (fun τ => (∀ j', j ≤ j' → j' < lod.length → gi τ 110 (lod.getD j' 0) = nI (tr.getD j' 0)) ∧ (∀ c, (∀ j', j ≤ j' → j' < lod.length → lod.getD j' 0 ≠ c) → gi τ 110 c = gi σ 110 c)) := by
  intro q
  induction q with
  | zero =>
    intro m j σ hj h6 h1 h2
    have : j = lod.length := by omega
    subst this
    rw [fX3_keepTrial_2, h6, if_pos (nI_le (Nat.le_refl _) (by omega))]
    exact ⟨_, rfl, fun j' a b => by omega, fun _ _ => rfl⟩
  | succ q ih =>
    intro m j σ hj h6 h1 h2
    have hlt : j < lod.length := by omega
    have hc6 := hc _ (getD_mem hlt)
    rw [show m + (q + 1) + 1 = (m + q + 1) + 1 by omega, fX3_keepTrial_2, h6, if_neg (nI_ge hlt (by omega)), if_neg (l_nle (k := 6) (by rfl) (by omega) (by decide)), gd_t (inb_nI (by omega) (by decide)), gd_t (inb_nI (by omega) (by decide)), nI_clamp (by omega), h1 j hlt, gd_t (inb_nI hc6 (by decide)), nI_clamp (by omega), h2 j hlt, nI_1]
    refine (ih m (j + 1) _ (by omega) ?_ (fun j' hj' => ?_) (fun j' hj' => ?_)).mono (fun τ ht => ⟨fun j' a b => ?_, fun c hcc => ?_⟩)
    · rw [gi_ne (by decide)]; exact h6
    · rw [gi_ne (by decide)]; exact h1 j' hj'
    · rw [gi_ne (by decide)]; exact h2 j' hj'
    · by_cases hjj : j' = j
      · subst hjj
        rw [ht.2 _ (fun j'' a'' b'' e => by have := getD_inj hn b'' b e; omega), gi_eq]
      · exact ht.1 j' (by omega) b
    · rw [ht.2 c (fun j' a b => hcc j' (by omega) b), gi_nj (fun e => hcc j (by omega) hlt e.symm)]
theorem lookup_zip {lod tr : List Nat} (hn : lod.Nodup) (hl : tr.length = lod.length) : ∀ j, j < lod.length → (lod.zip tr).lookup (lod.getD j 0) = some (tr.getD j 0) := by
  induction lod generalizing tr with
  | nil => intro j hj; simp at hj
  | cons a lod ih =>
    intro j hj
    rw [List.nodup_cons] at hn
    match tr, hl with
    | b :: tr, hl =>
      simp only [List.length_cons] at hl hj
      cases j with
      | zero => simp [List.lookup]
      | succ j =>
        have hne : lod.getD j 0 ≠ a := fun e => hn.1 (e ▸ getD_mem (by omega))
        show ((a, b) :: lod.zip tr).lookup (lod.getD j 0) = some (tr.getD j 0)
        rw [List.lookup_cons]
        have : (lod.getD j 0 == a) = false := by simpa using hne
        rw [this]
        exact ih hn.2 (by omega) j (by omega)
theorem lookup_none {lod tr : List Nat} {c : Nat} (h : c ∉ lod) : (lod.zip tr).lookup c = none := by
  induction lod generalizing tr with
  | nil => simp
  | cons a lod ih =>
    rw [List.mem_cons, not_or] at h
    match tr with
    | [] => simp
    | b :: tr =>
      show ((a, b) :: lod.zip tr).lookup c = none
      rw [List.lookup_cons]
      have : (c == a) = false := by simpa using h.1
      rw [this]
      exact ih h.2
theorem rmS_get {lod tr : List Nat} (hn : lod.Nodup) (hl : tr.length = lod.length) {j : Nat} (hj : j < lod.length) : rmS (lod, tr) (lod.getD j 0) = nI (tr.getD j 0) := by
  unfold rmS
  simp only
  rw [lookup_zip hn hl j hj]
theorem rmS_none {lod tr : List Nat} {c : Nat} (h : c ∉ lod) : rmS (lod, tr) c = -1 := by
  unfold rmS
  simp only
  rw [lookup_none h]
theorem mem_getD {l : List Nat} {c : Nat} (h : c ∈ l) : ∃ j, j < l.length ∧ l.getD j 0 = c := by
  obtain ⟨j, hj, e⟩ := List.mem_iff_getElem.mp h
  exact ⟨j, hj, by rw [gD_get hj]; exact e⟩
theorem getD_snoc {l : List Nat} {c j : Nat} (h : j < l.length + 1) : (l ++ [c]).getD j 0 = if j < l.length then l.getD j 0 else c := by
  by_cases hj : j < l.length
  · rw [if_pos hj, gD_a1 hj]
  · have : j = l.length := by omega
    subst this
    rw [if_neg hj, gD_a2 (Nat.le_refl _)]
    simp
def layE (e : TB) (x R : Nat) (σ : PS) : Prop := fitE e x R σ ∧ (∀ c, c < 6 → gi σ 18 c = e 18 c) ∧ gi σ 5 x = e 5 x
theorem layE_fr {e : TB} {x R : Nat} {σ τ : PS} (hx : x < 8) (h : layE e x R σ) (f : ∀ k j, k ≤ 24 → gi τ k j = gi σ k j) (f1 : gi τ 107 1 = gi σ 107 1) : layE e x R τ := by
  obtain ⟨⟨h1, h2, h3, h4⟩, h5, h6⟩ := h
  exact ⟨⟨by rw [f1]; exact h1, by rw [f _ _ (by decide)]; exact h2, fun c hc => by rw [f _ _ (by decide), f _ _ (by decide)]; exact h3 c hc, fun r hr => by rw [f _ _ (by omega)]; exact h4 r hr⟩, fun c hc => by rw [f _ _ (by decide)]; exact h5 c hc, by rw [f _ _ (by decide)]; exact h6⟩
theorem lay9_ok {e : TB} {x R : Nat} (hx : x < 8) (hRR : R ≤ 3) {O : List Nat} (hO6 : O.length ≤ 6) (hOc : ∀ c ∈ O, c < 6) (hOn : O.Nodup) : ∀ (Rm Pre lod tr : List Nat) (b : Int32) (m : Nat) (σ : PS), O = Pre ++ Rm → layE e x R σ → gi σ 107 2 = nI O.length → (∀ j, j < O.length → gi σ 108 j = nI (O.getD j 0)) → lod.length ≤ Pre.length → (∀ c ∈ lod, c ∈ Pre) → lod.Nodup → tr.length = lod.length → gi σ 107 6 = nI lod.length → (∀ j, j < lod.length → gi σ 111 j = nI (lod.getD j 0)) → (∀ c ∈ Pre, gi σ 110 c = rmS (lod, tr) c) → hO (fX3_lay_9 (m + Rm.length + 1) b (nI Pre.length) σ) (fun τ => (∀ c ∈ O, gi τ 110 c = rmS (layS e x R Rm lod tr b) c) ∧ ∀ j, j ≠ 6 → gi τ 107 j = gi σ 107 j) := by
  intro Rm
  induction Rm with
  | nil =>
    intro Pre lod tr b m σ hEq hE h2 h108 hlp hlm hln htr h6 h111 h110
    rw [List.append_nil] at hEq
    subst hEq
    rw [fX3_lay_9, h2, if_pos (nI_le (Nat.le_refl _) (by omega))]
    exact ⟨_, rfl, h110, fun _ _ => rfl⟩
  | cons c Rm ih =>
    intro Pre lod tr b m σ hEq hE h2 h108 hlp hlm hln htr h6 h111 h110
    have hlen : O.length = Pre.length + (Rm.length + 1) := by rw [hEq]; simp
    have hk : Pre.length < O.length := by omega
    have hget : O.getD Pre.length 0 = c := by rw [hEq, gD_a2 (Nat.le_refl _)]; simp
    have hcO : c ∈ O := by rw [hEq]; simp
    have hc6 := hOc c hcO
    have hcP : c ∉ Pre := by
      rw [hEq, List.nodup_append] at hOn
      intro q
      exact hOn.2.2 c q c List.mem_cons_self rfl
    have hcl : c ∉ lod := fun q => hcP (hlm c q)
    have hO2 : O = (Pre ++ [c]) ++ Rm := by rw [hEq]; simp
    rw [List.length_cons, show m + (Rm.length + 1) + 1 = (m + Rm.length + 1) + 1 by omega, fX3_lay_9, h2, if_neg (nI_ge hk (by omega)), if_neg (l_nle (k := 6) (by rfl) (by omega) (by decide)), gd_t (inb_nI (by omega) (by decide)), nI_clamp (show Pre.length < 2 ^ 31 by omega), h108 _ hk, hget, nI_clamp (show c < 2 ^ 31 by omega)]
    simp only [gd_t (inb_nI hc6 (show 6 < 2 ^ 31 by decide))]
    have t6 : gi (sI σ 110 c (-1)) 107 6 = nI lod.length := by rw [gi_ne (by decide)]; exact h6
    rw [t6, gd_t (inb_nI (by omega) (by decide)), nI_clamp (show lod.length < 2 ^ 31 by omega)]
    generalize hτ : sI (sI σ 110 c (-1)) 111 lod.length (nI c) = τ
    have t1 : ∀ k j, k ≠ 110 → k ≠ 111 → gi τ k j = gi σ k j := fun k j a b => by rw [← hτ, gi_ne b, gi_ne a]
    have t111 : ∀ j, j < lod.length → gi τ 111 j = nI (lod.getD j 0) := fun j hj => by rw [← hτ, gi_nj (by omega), gi_ne (by decide)]; exact h111 j hj
    have t111c : gi τ 111 lod.length = nI c := by rw [← hτ, gi_eq]
    have t110 : ∀ c', gi τ 110 c' = if c' = c then -1 else gi σ 110 c' := fun c' => by rw [← hτ, gi_ne (by decide), gi_k]
    have tE : layE e x R τ := layE_fr hx hE (fun k j hk => t1 k j (by omega) (by omega)) (t1 _ _ (by decide) (by decide))
    have h18 : gi σ 18 c = e 18 c := hE.2.1 c hc6
    rw [tE.1.1, gd_t (inb_nI hx (by decide)), nI_clamp (show x < 2 ^ 31 by omega), tE.2.2, h18]
    unfold fX3_lay_107
    rw [nI_1]
    have tP : ∀ c' ∈ Pre ++ [c], gi τ 110 c' = rmS (lod, tr) c' := by
      intro c' hc'
      rw [t110]
      by_cases hcc : c' = c
      · rw [if_pos hcc, hcc, rmS_none hcl]
      · rw [if_neg hcc]
        rw [List.mem_append, List.mem_singleton] at hc'
        exact h110 c' (hc'.resolve_right hcc)
    have e1 : nI (Pre.length + 1) = nI (Pre ++ [c]).length := by simp
    have skip : ∀ υ : PS, (∀ k j, k ≠ 112 → k ≠ 113 → k ≠ 114 → k ≠ 115 → gi υ k j = gi τ k j) → hO (fX3_lay_9 (m + Rm.length + 1) b (nI (Pre.length + 1)) υ) (fun τ => (∀ c ∈ O, gi τ 110 c = rmS (layS e x R Rm lod tr b) c) ∧ ∀ j, j ≠ 6 → gi τ 107 j = gi σ 107 j) := by
      intro υ hu
      rw [e1]
      refine (ih (Pre ++ [c]) lod tr b m υ hO2 (layE_fr hx tE (fun k j hk => hu k j (by omega) (by omega) (by omega) (by omega)) (hu _ _ (by decide) (by decide) (by decide) (by decide))) ?_ (fun j hj => ?_) (by simp; omega) (fun c h => List.mem_append_left _ (hlm c h)) hln htr ?_ (fun j hj => ?_) (fun c' hc' => ?_)).mono (fun z hz => ⟨hz.1, fun j hj => by rw [hz.2 j hj, hu _ _ (by decide) (by decide) (by decide) (by decide), t1 _ _ (by decide) (by decide)]⟩)
      · rw [hu _ _ (by decide) (by decide) (by decide) (by decide), t1 _ _ (by decide) (by decide)]; exact h2
      · rw [hu _ _ (by decide) (by decide) (by decide) (by decide), t1 _ _ (by decide) (by decide)]; exact h108 j hj
      · rw [hu _ _ (by decide) (by decide) (by decide) (by decide), t1 _ _ (by decide) (by decide)]; exact h6
      · rw [hu _ _ (by decide) (by decide) (by decide) (by decide)]; exact t111 j hj
      · rw [hu _ _ (by decide) (by decide) (by decide) (by decide)]; exact tP c' hc'
    rw [layS]
    by_cases hb : e 5 x < b + e 18 c
    · rw [if_pos hb, if_pos hb]
      exact skip τ (fun _ _ _ _ _ _ => rfl)
    · rw [if_neg hb, if_neg hb]
      have t6' : gi τ 107 6 = nI lod.length := by rw [t1 _ _ (by decide) (by decide)]; exact h6
      have hl1 : (lod ++ [c]).length = lod.length + 1 := by simp
      have hlc : ∀ c' ∈ lod ++ [c], c' < 6 := by
        intro c' hc'
        rw [List.mem_append, List.mem_singleton] at hc'
        rcases hc' with q | q
        · exact hOc c' (by rw [hEq]; exact List.mem_append_left _ (hlm c' q))
        · rw [q]; exact hc6
      have h111' : ∀ j, j < (lod ++ [c]).length → gi τ 111 j = nI ((lod ++ [c]).getD j 0) := by
        intro j hj
        rw [hl1] at hj
        rw [getD_snoc hj]
        by_cases hjl : j < lod.length
        · rw [if_pos hjl]; exact t111 j hjl
        · rw [if_neg hjl]
          have : j = lod.length := by omega
          rw [this]; exact t111c
      rw [t6', nI_1, ← hl1]
      refine (fitsAll_ok hx hRR (by rw [hl1]; omega) hlc tE.1 h111').then ?_
      rintro ⟨y, υ⟩ ⟨hQ, hF⟩
      have u1 : ∀ k j, k ≠ 112 → k ≠ 113 → k ≠ 114 → k ≠ 115 → gi υ k j = gi τ k j := fun k j a b c d => hF.1 k (by unfold SX3_fitsAll inS; simp; omega) j
      simp only at hQ ⊢
      cases hf : fitS e x R (lod ++ [c]) (fun _ _ => 0) with
      | none =>
        rw [hf] at hQ
        rw [show y = 0 from hQ, if_pos rfl]
        exact skip υ u1
      | some t =>
        rw [hf] at hQ
        obtain ⟨hy, ht⟩ := hQ
        rw [hy, if_neg (by decide)]
        simp only
        have hlen' := fitS_len hf
        have u6 : gi υ 107 6 = nI lod.length := by rw [u1 _ _ (by decide) (by decide) (by decide) (by decide)]; exact t6'
        rw [u6, nI_1, ← hl1]
        have hln' : (lod ++ [c]).Nodup := by
          rw [List.nodup_append]
          refine ⟨hln, by simp, fun a ha b hb e => ?_⟩
          rw [List.mem_singleton] at hb
          rw [hb] at e
          exact hcl (e ▸ ha)
        obtain ⟨m2, hm2⟩ := FU_k ((lod ++ [c]).length + 1) (by rw [hl1]; omega)
        unfold fX3_keepTrial
        rw [hm2]
        have v1 : ∀ k j, k ≠ 107 → gi (sI υ 107 6 (nI (lod ++ [c]).length)) k j = gi υ k j := fun k j a => gi_ne a
        have keep := keep_ok (lod := lod ++ [c]) (tr := t) (by rw [hl1]; omega) hln' hlc ((lod ++ [c]).length) m2 0 (sI υ 107 6 (nI (lod ++ [c]).length)) (by omega) gi_eq (fun j hj => by rw [v1 _ _ (by decide), u1 _ _ (by decide) (by decide) (by decide) (by decide)]; exact h111' j hj) (fun j hj => by rw [v1 _ _ (by decide)]; exact ht j (by omega))
        have keep2 := keep.and (fun a ea => frX3_keepTrial (sI υ 107 6 (nI (lod ++ [c]).length)) a (by unfold fX3_keepTrial; rw [hm2]; exact ea))
        refine keep2.then ?_
        rintro ω ⟨⟨k1, k2⟩, hFk⟩
        have w1 : ∀ k j, k ≠ 110 → gi ω k j = gi (sI υ 107 6 (nI (lod ++ [c]).length)) k j := fun k j a => hFk.1 k (by unfold SX3_keepTrial inS; simp; omega) j
        have w2 : ∀ k j, k ≠ 110 → k ≠ 112 → k ≠ 113 → k ≠ 114 → k ≠ 115 → (k = 107 → j ≠ 6) → gi ω k j = gi τ k j := by
          intro k j a b c d e f
          rw [w1 k j a]
          by_cases hk : k = 107
          · subst hk
            rw [gi_nj (f rfl)]; exact u1 _ _ b c d e
          · rw [v1 _ _ hk]; exact u1 _ _ b c d e
        rw [e1]
        refine (ih (Pre ++ [c]) (lod ++ [c]) t (b + e 18 c) m ω hO2 (layE_fr hx tE (fun k j hk => w2 k j (by omega) (by omega) (by omega) (by omega) (by omega) (by omega)) (w2 _ _ (by decide) (by decide) (by decide) (by decide) (by decide) (by decide))) ?_ (fun j hj => ?_) (by simp; omega) ?_ hln' hlen' ?_ (fun j hj => ?_) (fun c' hc' => ?_)).mono (fun z hz => ⟨hz.1, fun j hj => by rw [hz.2 j hj, w2 _ _ (by decide) (by decide) (by decide) (by decide) (by decide) (fun _ => hj), t1 _ _ (by decide) (by decide)]⟩)
        · rw [w2 _ _ (by decide) (by decide) (by decide) (by decide) (by decide) (by decide), t1 _ _ (by decide) (by decide)]; exact h2
        · rw [w2 _ _ (by decide) (by decide) (by decide) (by decide) (by decide) (fun q => absurd q (by decide)), t1 _ _ (by decide) (by decide)]; exact h108 j hj
        · intro c' hc'
          rw [List.mem_append] at hc' ⊢
          exact hc'.imp (hlm c') id
        · rw [w1 _ _ (by decide), gi_eq]
        · rw [w2 _ _ (by decide) (by decide) (by decide) (by decide) (by decide) (fun q => absurd q (by decide))]; exact h111' j hj
        · by_cases hm : c' ∈ lod ++ [c]
          · obtain ⟨j, hj, rfl⟩ := mem_getD hm
            rw [k1 j (by omega) hj, rmS_get hln' hlen' hj]
          · rw [k2 c' (fun j' _ b e => hm (e ▸ getD_mem b)), v1 _ _ (by decide), u1 _ _ (by decide) (by decide) (by decide) (by decide), tP c' hc', rmS_none hm, rmS_none (fun q => hm (List.mem_append_left _ q))]
theorem lay_ok {e : TB} {x R : Nat} (hx : x < 8) (hRR : R ≤ 3) {rk : Nat → Int32} {L : List Nat} (hO6 : L.length ≤ 6) (hOc : ∀ c ∈ L, c < 6) (hOn : L.Nodup) {σ : PS} (hE : layE e x R σ) (hO' : OR σ rk L) : hO (fX3_lay σ) (fun τ => ((∀ c ∈ L.reverse, gi τ 110 c = rmS (layS e x R L.reverse [] [] 0) c) ∧ ∀ j, j ≠ 6 → gi τ 107 j = gi σ 107 j) ∧ FRM SX3_lay σ τ) := by
  refine hO.and ?_ (fun a ea => frX3_lay _ _ ea)
  unfold fX3_lay
  obtain ⟨m, hm⟩ := FU_k (L.reverse.length + 1) (by rw [List.length_reverse]; omega)
  rw [hm]
  have t1 : ∀ k j, k ≠ 107 → gi (sI σ 107 6 0) k j = gi σ k j := fun k j a => gi_ne a
  have h1 : gi (sI σ 107 6 0) 107 1 = gi σ 107 1 := gi_nj (by decide)
  have := lay9_ok (e := e) (R := R) hx hRR (O := L.reverse) (by rw [List.length_reverse]; exact hO6) (fun c h => hOc c (List.mem_reverse.mp h)) (nodup_rev hOn) L.reverse [] [] [] 0 m (sI σ 107 6 0) rfl (layE_fr hx hE (fun k j hk => t1 k j (by omega)) h1) ?_ (fun j hj => ?_) (Nat.le_refl _) (fun c h => by cases h) List.nodup_nil rfl gi_eq (fun j hj => by simp at hj) (fun c h => by cases h)
  · exact this.mono (fun z hz => ⟨hz.1, fun j hj => by rw [hz.2 j hj, gi_nj hj]⟩)
  · rw [gi_nj (by decide), hO'.2.2, List.length_reverse]
  · rw [List.length_reverse] at hj
    rw [t1 _ _ (by decide), stk_get hO'.1 j (by simpa using hj), ← List.map_reverse]
    rw [gD_get (by simpa using hj), gD_get (by simpa using hj), List.getElem_map]
