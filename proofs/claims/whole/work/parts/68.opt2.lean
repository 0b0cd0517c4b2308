/-! the class's lay is the best way -/
def WayF (e : TB) (i R : Nat) (O : List Nat) (α : Nat → Nat) : Prop := (∀ c ∈ O, α c ≤ R) ∧ (∀ c ∈ O, ∀ c' ∈ O, α c < R → α c = α c' → e 17 c = e 17 c') ∧ (∀ r, r < R → smF (gN e) (fun c => α c == r) O ≤ zN e i r) ∧ smF (bN e) (fun c => decide (α c < R)) O ≤ (e 5 i).toNatClampNeg
theorem lay_fact {e : TB} {i R : Nat} : ∀ (Rm lod tr : List Nat) (b : Int32), ∃ S, (layS e i R Rm lod tr b).1 = lod ++ S ∧ List.Sublist S Rm := by
  intro Rm
  induction Rm with
  | nil => intro lod tr b; exact ⟨[], by simp [layS], List.Sublist.slnil⟩
  | cons c Rm ih =>
    intro lod tr b
    rw [layS]
    split
    · obtain ⟨S, h1, h2⟩ := ih lod tr b
      exact ⟨S, h1, h2.cons c⟩
    · split
      · obtain ⟨S, h1, h2⟩ := ih lod tr b
        exact ⟨S, h1, h2.cons c⟩
      · rename_i t _
        obtain ⟨S, h1, h2⟩ := ih (lod ++ [c]) t (b + e 18 c)
        exact ⟨c :: S, by rw [h1]; simp, h2.cons_cons c⟩
theorem lay_fit {e : TB} {i R : Nat} : ∀ (Rm lod tr : List Nat) (b : Int32), fitS e i R lod (fun _ _ => 0) = some tr → fitS e i R (layS e i R Rm lod tr b).1 (fun _ _ => 0) = some (layS e i R Rm lod tr b).2 := by
  intro Rm
  induction Rm with
  | nil => intro lod tr b h; exact h
  | cons c Rm ih =>
    intro lod tr b h
    rw [layS]
    split
    · exact ih lod tr b h
    · split
      · exact ih lod tr b h
      · rename_i t ht
        exact ih (lod ++ [c]) t _ ht
theorem bN_eq {e : TB} {i R : Nat} {O : List Nat} (h : OK e i R O) {c : Nat} (hc : c ∈ O) : e 18 c = nI (bN e c) ∧ bN e c ≤ 30 := by
  have := isN_cl (h.2.2.2.1 c hc).2.1 (by decide)
  exact ⟨this.1, this.2.2⟩
theorem smT_le {e : TB} {i R : Nat} {O L : List Nat} (h : OK e i R O) (hs : List.Sublist L O) : smF (bN e) (fun _ => true) L ≤ 180 := by
  have h1 : smF (bN e) (fun _ => true) L ≤ 30 * L.length := smF_le (fun c hc => (bN_eq h (hs.subset hc)).2)
  have h2 := hs.length_le
  have h3 := h.2.1
  omega
theorem stall_iff {e : TB} {i R : Nat} {O lod : List Nat} {c : Nat} (h : OK e i R O) (hs : List.Sublist (lod ++ [c]) O) : e 5 i < nI (smF (bN e) (fun _ => true) lod) + e 18 c ↔ (e 5 i).toNatClampNeg < smF (bN e) (fun _ => true) (lod ++ [c]) := by
  have hc : c ∈ O := hs.subset (by simp)
  have h5 := isN_cl h.2.2.2.2.1 (by decide)
  have hb := smT_le h hs
  have e1 : smF (bN e) (fun _ => true) (lod ++ [c]) = smF (bN e) (fun _ => true) lod + bN e c := by
    rw [smF_app]
    simp only [smF]
    rw [if_pos trivial, Nat.add_zero]
  rw [e1] at hb ⊢
  generalize (e 5 i).toNatClampNeg = s at h5 ⊢
  rw [h5.1, (bN_eq h hc).1, nI_add, nI_ltI (by omega) (by omega)]
theorem lay_sum {e : TB} {i R : Nat} {O : List Nat} (h : OK e i R O) : ∀ (Rm Pre lod tr : List Nat) (b : Int32), O = Pre ++ Rm → List.Sublist lod Pre → b = nI (smF (bN e) (fun _ => true) lod) → smF (bN e) (fun _ => true) lod ≤ (e 5 i).toNatClampNeg → smF (bN e) (fun _ => true) (layS e i R Rm lod tr b).1 ≤ (e 5 i).toNatClampNeg := by
  intro Rm
  induction Rm with
  | nil => intro Pre lod tr b _ _ _ hs; exact hs
  | cons c Rm ih =>
    intro Pre lod tr b hO hsub hb hs
    have hO2 : O = (Pre ++ [c]) ++ Rm := by rw [hO]; simp
    have hsub1 : List.Sublist lod (Pre ++ [c]) := hsub.trans (List.sublist_append_left _ _)
    have hsub2 : List.Sublist (lod ++ [c]) (Pre ++ [c]) := List.Sublist.append hsub (List.Sublist.refl _)
    have hsubO : List.Sublist (lod ++ [c]) O := by rw [hO2]; exact hsub2.trans (List.sublist_append_left _ _)
    rw [layS]
    split
    · exact ih (Pre ++ [c]) lod tr b hO2 hsub1 hb hs
    · rename_i hst
      split
      · exact ih (Pre ++ [c]) lod tr b hO2 hsub1 hb hs
      · rename_i t ht
        have hcO : c ∈ O := hsubO.subset (by simp)
        refine ih (Pre ++ [c]) (lod ++ [c]) t _ hO2 hsub2 ?_ ?_
        · rw [hb, (bN_eq h hcO).1, nI_add, smF_app]
          simp only [smF]
          rw [if_pos trivial, Nat.add_zero]
        · rw [hb, stall_iff h hsubO] at hst
          omega
theorem lay_greedy {e : TB} {i R : Nat} {O : List Nat} (h : OK e i R O) {α : Nat → Nat} (hW : WayF e i R O α) : ∀ (Rm Pre lod tr : List Nat) (b : Int32), O = Pre ++ Rm → List.Sublist lod Pre → b = nI (smF (bN e) (fun _ => true) lod) → (∀ c ∈ Pre, c ∈ lod ↔ α c < R) → (∀ c ∈ Rm, c ∈ (layS e i R Rm lod tr b).1 ↔ α c < R) ∨ ∃ X c Y, Rm = X ++ c :: Y ∧ (∀ c' ∈ X, c' ∈ (layS e i R Rm lod tr b).1 ↔ α c' < R) ∧ c ∈ (layS e i R Rm lod tr b).1 ∧ ¬ α c < R := by
  intro Rm
  induction Rm with
  | nil => intro Pre lod tr b _ _ _ _; exact Or.inl (fun c hc => by cases hc)
  | cons c Rm ih =>
    intro Pre lod tr b hO hsub hb hp
    have hO2 : O = (Pre ++ [c]) ++ Rm := by rw [hO]; simp
    have hsub1 : List.Sublist lod (Pre ++ [c]) := hsub.trans (List.sublist_append_left _ _)
    have hsub2 : List.Sublist (lod ++ [c]) (Pre ++ [c]) := List.Sublist.append hsub (List.Sublist.refl _)
    have hsubO : List.Sublist (lod ++ [c]) O := by rw [hO2]; exact hsub2.trans (List.sublist_append_left _ _)
    have hcO : c ∈ O := hsubO.subset (by simp)
    have hnd := h.2.2.1
    have hcP : c ∉ Pre := by
      rw [hO, List.nodup_append] at hnd
      intro q
      exact hnd.2.2 c q c List.mem_cons_self rfl
    have hcR : c ∉ Rm := by
      rw [hO, List.nodup_append, List.nodup_cons] at hnd
      exact hnd.2.1.1
    -- the caravan is left outside
    have out : c ∉ (layS e i R Rm lod tr b).1 → ¬ α c < R → (∀ x ∈ c :: Rm, x ∈ (layS e i R Rm lod tr b).1 ↔ α x < R) ∨ ∃ X y Y, c :: Rm = X ++ y :: Y ∧ (∀ x ∈ X, x ∈ (layS e i R Rm lod tr b).1 ↔ α x < R) ∧ y ∈ (layS e i R Rm lod tr b).1 ∧ ¬ α y < R := by
      intro h1 h2
      have hp' : ∀ x ∈ Pre ++ [c], x ∈ lod ↔ α x < R := by
        intro x hx
        rw [List.mem_append, List.mem_singleton] at hx
        rcases hx with q | q
        · exact hp x q
        · rw [q]
          exact ⟨fun q => absurd (hsub.subset q) hcP, fun q => absurd q h2⟩
      rcases ih (Pre ++ [c]) lod tr b hO2 hsub1 hb hp' with q | ⟨X, y, Y, q1, q2, q3, q4⟩
      · left
        intro x hx
        rw [List.mem_cons] at hx
        rcases hx with r | r
        · rw [r]; exact ⟨fun q => absurd q h1, fun q => absurd q h2⟩
        · exact q x r
      · right
        refine ⟨c :: X, y, Y, by rw [q1]; rfl, fun x hx => ?_, q3, q4⟩
        rw [List.mem_cons] at hx
        rcases hx with r | r
        · rw [r]; exact ⟨fun q => absurd q h1, fun q => absurd q h2⟩
        · exact q2 x r
    have notin : c ∉ (layS e i R Rm lod tr b).1 := by
      obtain ⟨S, hS1, hS2⟩ := lay_fact (e := e) (i := i) (R := R) Rm lod tr b
      rw [hS1, List.mem_append]
      rintro (q | q)
      · exact hcP (hsub.subset q)
      · exact hcR (hS2.subset q)
    -- α keeps all of lod and c
    have allin : α c < R → VL e i R α (lod ++ [c]) ∧ smF (bN e) (fun _ => true) (lod ++ [c]) ≤ (e 5 i).toNatClampNeg := by
      intro hc
      have hin : ∀ x ∈ lod ++ [c], α x < R := by
        intro x hx
        rw [List.mem_append, List.mem_singleton] at hx
        rcases hx with q | q
        · exact (hp x (hsub.subset q)).mp q
        · rw [q]; exact hc
      refine ⟨⟨hin, fun x hx y hy hxy => hW.2.1 x (hsubO.subset hx) y (hsubO.subset hy) (hin x hx) hxy, fun r hr => Nat.le_trans (smF_sub hsubO) (hW.2.2.1 r hr)⟩, ?_⟩
      have e1 : smF (bN e) (fun _ => true) (lod ++ [c]) = smF (bN e) (fun x => decide (α x < R)) (lod ++ [c]) := smF_congr (fun x hx => (decide_eq_true (hin x hx)).symm)
      rw [e1]
      exact Nat.le_trans (smF_sub hsubO) hW.2.2.2
    rw [layS]
    split
    · rename_i hst
      refine out notin (fun hc => ?_)
      rw [hb, stall_iff h hsubO] at hst
      have := (allin hc).2
      omega
    · rename_i hst
      split
      · rename_i hf
        refine out notin (fun hc => ?_)
        have hl : (lod ++ [c]).length ≤ 6 := Nat.le_trans hsubO.length_le h.2.1
        exact (fitS_spec (lod ++ [c]) _).2 hf _ ((VS_z (α := α) h.2.2.2.2.2 hl (fun x hx => (h.2.2.2.1 x (hsubO.subset hx)).1)).mpr (allin hc).1)
      · rename_i t ht
        have hcF : c ∈ (layS e i R Rm (lod ++ [c]) t (b + e 18 c)).1 := by
          obtain ⟨S, hS1, hS2⟩ := lay_fact (e := e) (i := i) (R := R) Rm (lod ++ [c]) t (b + e 18 c)
          rw [hS1]
          simp
        by_cases hc : α c < R
        · have hp' : ∀ x ∈ Pre ++ [c], x ∈ lod ++ [c] ↔ α x < R := by
            intro x hx
            rw [List.mem_append, List.mem_singleton] at hx
            rcases hx with q | q
            · rw [List.mem_append, List.mem_singleton]
              constructor
              · rintro (r | r)
                · exact (hp x q).mp r
                · rw [r]; exact hc
              · exact fun r => Or.inl ((hp x q).mpr r)
            · rw [q]
              exact ⟨fun _ => hc, fun _ => by simp⟩
          have hb' : b + e 18 c = nI (smF (bN e) (fun _ => true) (lod ++ [c])) := by
            rw [hb, (bN_eq h hcO).1, nI_add, smF_app]
            simp only [smF]
            rw [if_pos trivial, Nat.add_zero]
          rcases ih (Pre ++ [c]) (lod ++ [c]) t (b + e 18 c) hO2 hsub2 hb' hp' with q | ⟨X, y, Y, q1, q2, q3, q4⟩
          · left
            intro x hx
            rw [List.mem_cons] at hx
            rcases hx with r | r
            · rw [r]; exact ⟨fun _ => hc, fun _ => hcF⟩
            · exact q x r
          · right
            refine ⟨c :: X, y, Y, by rw [q1]; rfl, fun x hx => ?_, q3, q4⟩
            rw [List.mem_cons] at hx
            rcases hx with r | r
            · rw [r]; exact ⟨fun _ => hc, fun _ => hcF⟩
            · exact q2 x r
        · right
          exact ⟨[], c, Rm, rfl, fun x hx => (by cases hx), hcF, hc⟩
/-! ways by numbers: who is outside, then the rooms -/
def fl (R : Nat) : List Nat → Nat
  | [] => 0
  | a :: A => (if a = R then 2 ^ A.length else 0) + fl R A
def vb (R : Nat) : List Nat → Nat
  | [] => 0
  | a :: A => a * (R + 1) ^ A.length + vb R A
theorem fl_lt (R : Nat) (A : List Nat) : fl R A < 2 ^ A.length := by
  induction A with
  | nil => simp [fl]
  | cons a A ih =>
    simp only [fl, List.length_cons, Nat.pow_succ]
    split <;> omega
theorem vb_lt {R : Nat} {A : List Nat} (h : ∀ a ∈ A, a ≤ R) : vb R A < (R + 1) ^ A.length := by
  induction A with
  | nil => simp [vb]
  | cons a A ih =>
    have h1 := ih (fun a ha => h a (List.mem_cons_of_mem _ ha))
    have h2 := h a List.mem_cons_self
    simp only [vb, List.length_cons, Nat.pow_succ]
    have h3 : a * (R + 1) ^ A.length ≤ R * (R + 1) ^ A.length := Nat.mul_le_mul_right _ h2
    have h4 : (R + 1) ^ A.length * (R + 1) = R * (R + 1) ^ A.length + (R + 1) ^ A.length := by rw [Nat.mul_comm, Nat.succ_mul]
    omega
theorem vb_head {R a b : Nat} {A B : List Nat} (hl : A.length = B.length) (hA : ∀ x ∈ A, x ≤ R) (h : a < b) : vb R (a :: A) < vb R (b :: B) := by
  simp only [vb]
  have h1 := vb_lt hA
  have h2 : (a + 1) * (R + 1) ^ A.length ≤ b * (R + 1) ^ A.length := Nat.mul_le_mul_right _ h
  rw [Nat.succ_mul] at h2
  rw [← hl]
  omega
theorem vb_inj {R : Nat} : ∀ {A B : List Nat}, A.length = B.length → (∀ x ∈ A, x ≤ R) → (∀ x ∈ B, x ≤ R) → vb R A = vb R B → A = B := by
  intro A
  induction A with
  | nil => intro B hl _ _ _; exact (List.length_eq_zero_iff.mp hl.symm).symm
  | cons a A ih =>
    intro B hl hA hB h
    match B, hl with
    | b :: B, hl =>
      have hl' : A.length = B.length := by simpa using hl
      have hA' := (fun x hx => hA x (List.mem_cons_of_mem _ hx) : ∀ x ∈ A, x ≤ R)
      have hB' := (fun x hx => hB x (List.mem_cons_of_mem _ hx) : ∀ x ∈ B, x ≤ R)
      have hab : a = b := by
        by_cases h1 : a < b
        · have := vb_head (b := b) hl' hA' h1; omega
        · by_cases h2 : b < a
          · have := vb_head (b := a) hl'.symm hB' h2; omega
          · omega
      subst hab
      simp only [vb] at h
      rw [hl'] at h
      rw [ih hl' hA' hB' (by omega)]
theorem fl_congr {R : Nat} {α β : Nat → Nat} {O : List Nat} (h : ∀ c ∈ O, α c = R ↔ β c = R) : fl R (O.map α) = fl R (O.map β) := by
  induction O with
  | nil => rfl
  | cons c O ih =>
    simp only [List.map_cons, fl, List.length_map]
    rw [ih (fun c hc => h c (List.mem_cons_of_mem _ hc))]
    have := h c List.mem_cons_self
    by_cases hq : α c = R
    · rw [if_pos hq, if_pos (this.mp hq)]
    · rw [if_neg hq, if_neg (fun q => hq (this.mpr q))]
theorem fl_first {R : Nat} {α β : Nat → Nat} {X Y : List Nat} {c : Nat} (h : ∀ x ∈ X, α x = R ↔ β x = R) (ha : α c ≠ R) (hb : β c = R) : fl R ((X ++ c :: Y).map α) < fl R ((X ++ c :: Y).map β) := by
  induction X with
  | nil =>
    simp only [List.nil_append, List.map_cons, fl, List.length_map]
    rw [if_neg ha, if_pos hb]
    have := fl_lt R (Y.map α)
    rw [List.length_map] at this
    omega
  | cons x X ih =>
    have ih := ih (fun x hx => h x (List.mem_cons_of_mem _ hx))
    have := h x List.mem_cons_self
    simp only [List.cons_append, List.map_cons, fl, List.length_map]
    by_cases hq : α x = R
    · rw [if_pos hq, if_pos (this.mp hq)]; omega
    · rw [if_neg hq, if_neg (fun q => hq (this.mpr q))]; omega
theorem vb_lex {R : Nat} {α β : Nat → Nat} {F O : List Nat} (hs : List.Sublist F O) (hn : O.Nodup) (hoff : ∀ c ∈ O, c ∉ F → α c = β c) (hA : ∀ c ∈ O, α c ≤ R) (hB : ∀ c ∈ O, β c ≤ R) (hx : lexle (F.map α) (F.map β)) : vb R (O.map α) ≤ vb R (O.map β) := by
  induction hs with
  | slnil => exact Nat.le_refl _
  | @cons F O a hs ih =>
    rw [List.nodup_cons] at hn
    have h1 := ih hn.2 (fun c hc hq => hoff c (List.mem_cons_of_mem _ hc) hq) (fun c hc => hA c (List.mem_cons_of_mem _ hc)) (fun c hc => hB c (List.mem_cons_of_mem _ hc)) hx
    simp only [List.map_cons, vb, List.length_map]
    rw [hoff a List.mem_cons_self (fun q => hn.1 (hs.subset q))]
    omega
  | @cons_cons F O a hs ih =>
    rw [List.nodup_cons] at hn
    simp only [List.map_cons, lexle] at hx
    rcases hx with hx | ⟨hx, hx'⟩
    · refine Nat.le_of_lt (vb_head (by simp) (fun x hx' => ?_) hx)
      obtain ⟨c, hc, rfl⟩ := List.mem_map.mp hx'
      exact hA c (List.mem_cons_of_mem _ hc)
    · have h1 := ih hn.2 (fun c hc hq => hoff c (List.mem_cons_of_mem _ hc) (fun q => by
        rw [List.mem_cons] at q
        rcases q with q | q
        · exact hn.1 (q ▸ hc)
        · exact hq q)) (fun c hc => hA c (List.mem_cons_of_mem _ hc)) (fun c hc => hB c (List.mem_cons_of_mem _ hc)) hx'
      simp only [List.map_cons, vb, List.length_map]
      rw [hx]
      omega
/-- where the class lays a caravan: R for outside -/
def aS (R : Nat) (q : List Nat × List Nat) (c : Nat) : Nat := ((q.1.zip q.2).lookup c).getD R
theorem aS_none {R : Nat} {F T : List Nat} {c : Nat} (h : c ∉ F) : aS R (F, T) c = R := by
  unfold aS
  simp only
  rw [lookup_none h]
  rfl
theorem aS_map {R : Nat} {F T : List Nat} (hn : F.Nodup) (hl : T.length = F.length) : F.map (aS R (F, T)) = T := by
  refine List.ext_getElem (by simp [hl]) (fun j h1 h2 => ?_)
  rw [List.getElem_map]
  rw [List.length_map] at h1
  have h3 := lookup_zip hn hl j h1
  rw [gD_get h1, gD_get h2] at h3
  unfold aS
  simp only
  rw [h3]
  rfl
theorem VS_lt {e : TB} {i R : Nat} : ∀ {L : List Nat} {st : TB} {t : List Nat}, VS e i R st L t → ∀ r ∈ t, r < R := by
  intro L
  induction L with
  | nil => intro st t h r hr; rw [show t = [] from h] at hr; cases hr
  | cons c L ih =>
    rintro st t ⟨r0, t', rfl, hr, -, hv⟩ r hrt
    rw [List.mem_cons] at hrt
    rcases hrt with q | q
    · rw [q]; exact hr
    · exact ih hv r q
theorem lay_best {e : TB} {i R : Nat} {O : List Nat} (h : OK e i R O) : WayF e i R O (aS R (layS e i R O [] [] 0)) ∧ (∀ c ∈ O, rmS (layS e i R O [] [] 0) c = if aS R (layS e i R O [] [] 0) c = R then -1 else nI (aS R (layS e i R O [] [] 0) c)) ∧ ∀ α, WayF e i R O α → fl R (O.map (aS R (layS e i R O [] [] 0))) < fl R (O.map α) ∨ (fl R (O.map (aS R (layS e i R O [] [] 0))) = fl R (O.map α) ∧ vb R (O.map (aS R (layS e i R O [] [] 0))) ≤ vb R (O.map α)) := by
  obtain ⟨S, hS1, hS2⟩ := lay_fact (e := e) (i := i) (R := R) O [] [] 0
  have hfit := lay_fit (e := e) (i := i) (R := R) O [] [] 0 rfl
  have hsum := lay_sum h O [] [] [] 0 rfl List.Sublist.slnil rfl (Nat.zero_le _)
  have hgr := fun α (hW : WayF e i R O α) => lay_greedy h hW O [] [] [] 0 rfl List.Sublist.slnil rfl (fun c hc => by cases hc)
  rw [List.nil_append] at hS1
  generalize layS e i R O [] [] 0 = q at *
  obtain ⟨F, T⟩ := q
  simp only at hS1 hfit hsum hgr
  subst hS1
  have hFn : F.Nodup := List.Nodup.sublist hS2 h.2.2.1
  have hTl := fitS_len hfit
  have hmap := aS_map (R := R) hFn hTl
  have hVS := ((fitS_spec F _).1 T hfit)
  have hFl : F.length ≤ 6 := Nat.le_trans hS2.length_le h.2.1
  have hFg : ∀ c ∈ F, isN (e 19 c) 1 9 := fun c hc => (h.2.2.2.1 c (hS2.subset hc)).1
  have hVL : VL e i R (aS R (F, T)) F := (VS_z h.2.2.2.2.2 hFl hFg).mp (by rw [hmap]; exact hVS.1)
  have hout : ∀ c, c ∉ F → aS R (F, T) c = R := fun c hc => aS_none hc
  have hin : ∀ c, aS R (F, T) c < R ↔ c ∈ F := by
    intro c
    refine ⟨fun hq => ?_, fun hq => hVL.1 c hq⟩
    apply Classical.byContradiction
    intro hn
    rw [hout c hn] at hq
    omega
  have hle : ∀ c, aS R (F, T) c ≤ R := by
    intro c
    by_cases hc : c ∈ F
    · have := hVL.1 c hc; omega
    · rw [hout c hc]; omega
  refine ⟨⟨fun c _ => hle c, fun c hc c' hc' hlt heq => ?_, fun r hr => ?_, ?_⟩, fun c hc => ?_, fun α hW => ?_⟩
  · exact hVL.2.1 c ((hin c).mp hlt) c' ((hin c').mp (by omega)) heq
  · rw [smF_ext hS2 h.2.2.1 (fun c _ hq => by rw [hout c hq]; rw [beq_eq_false_iff_ne]; omega)]
    exact hVL.2.2 r hr
  · rw [smF_ext hS2 h.2.2.1 (fun c _ hq => by rw [hout c hq]; simp), smF_congr (q := fun _ => true) (fun c hc => decide_eq_true (hVL.1 c hc))]
    exact hsum
  · by_cases hcF : c ∈ F
    · obtain ⟨j, hj, rfl⟩ := mem_getD hcF
      have h3 := hVL.1 _ hcF
      rw [if_neg (by omega)]
      unfold rmS aS
      simp only
      rw [lookup_zip hFn hTl j hj]
      rfl
    · rw [hout c hcF, if_pos rfl, rmS_none hcF]
  · have hiff : ∀ c ∈ O, (α c < R ↔ ¬ α c = R) := fun c hc => by have := hW.1 c hc; omega
    rcases hgr α hW with hp | ⟨X, c, Y, q1, q2, q3, q4⟩
    · right
      refine ⟨fl_congr (fun c hc => ?_), ?_⟩
      · have h1 := hp c hc
        have h2 := hiff c hc
        have h3 := hin c
        have h4 := hle c
        constructor
        · intro hq
          have : ¬ c ∈ F := fun hf => by have := h3.mpr hf; omega
          have h5 : ¬ α c < R := fun q => this (h1.mpr q)
          have := hW.1 c hc
          omega
        · intro hq
          have : ¬ c ∈ F := fun hf => by have := h1.mp hf; omega
          exact hout c this
      · refine vb_lex hS2 h.2.2.1 (fun c hc hcF => ?_) (fun c _ => hle c) hW.1 ?_
        · rw [hout c hcF]
          have h5 : ¬ α c < R := fun q => hcF ((hp c hc).mpr q)
          have := hW.1 c hc
          omega
        · rw [hmap]
          refine hVS.2 _ ((VS_z h.2.2.2.2.2 hFl hFg).mpr ?_)
          have hFR : ∀ c ∈ F, α c < R := fun c hc => (hp c (hS2.subset hc)).mp hc
          exact ⟨hFR, fun c hc c' hc' heq => hW.2.1 c (hS2.subset hc) c' (hS2.subset hc') (hFR c hc) heq, fun r hr => Nat.le_trans (smF_sub hS2) (hW.2.2.1 r hr)⟩
    · left
      have hcO : c ∈ O := by rw [q1]; simp
      have hX : ∀ x ∈ X, x ∈ O := fun x hx => by rw [q1]; exact List.mem_append_left _ hx
      rw [q1]
      refine fl_first (fun x hx => ?_) ?_ ?_
      · have h1 := q2 x hx
        have h3 := hin x
        have h4 := hle x
        have h5 := hW.1 x (hX x hx)
        constructor
        · intro hq
          have : ¬ x ∈ F := fun hf => by have := h3.mpr hf; omega
          have h5' : ¬ α x < R := fun q => this (h1.mpr q)
          omega
        · intro hq
          have : ¬ x ∈ F := fun hf => by have := h1.mp hf; omega
          exact hout x this
      · have := (hin c).mpr q3; omega
      · have := hW.1 c hcO; omega
