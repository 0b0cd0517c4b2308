/-! rooms: the first way that the class finds is the best of all -/
def VS (e : TB) (i R : Nat) : TB → List Nat → List Nat → Prop
  | _, [], t => t = []
  | st, c :: L, t => ∃ r t', t = r :: t' ∧ r < R ∧ opnS e i st r c = true ∧ VS e i R (putS e st r c) L t'
def lexle : List Nat → List Nat → Prop
  | [], _ => True
  | _ :: _, [] => False
  | a :: s, b :: t => a < b ∨ (a = b ∧ lexle s t)
theorem fsm_some {α : Type} {F : Nat → Option α} {t : α} : ∀ {n s : Nat}, (List.range' s n).findSome? F = some t → ∃ r, s ≤ r ∧ r < s + n ∧ F r = some t ∧ ∀ r', s ≤ r' → r' < r → F r' = none := by
  intro n
  induction n with
  | zero => intro s h; cases h
  | succ n ih =>
    intro s h
    rw [List.range'_succ, List.findSome?_cons] at h
    cases hf : F s with
    | some x =>
      rw [hf] at h
      simp only at h
      cases h
      exact ⟨s, Nat.le_refl _, by omega, hf, fun r' a b => by omega⟩
    | none =>
      rw [hf] at h
      obtain ⟨r, a, b, c, d⟩ := ih h
      refine ⟨r, by omega, by omega, c, fun r' a' b' => ?_⟩
      by_cases hr : r' = s
      · rw [hr]; exact hf
      · exact d r' (by omega) b'
theorem fsm_none {α : Type} {F : Nat → Option α} : ∀ {n s : Nat}, (List.range' s n).findSome? F = none → ∀ r, s ≤ r → r < s + n → F r = none := by
  intro n
  induction n with
  | zero => intro s h r a b; omega
  | succ n ih =>
    intro s h r a b
    rw [List.range'_succ, List.findSome?_cons] at h
    cases hf : F s with
    | some x => rw [hf] at h; cases h
    | none =>
      rw [hf] at h
      by_cases hr : r = s
      · rw [hr]; exact hf
      · exact ih h r (by omega) (by omega)
theorem fitS_spec {e : TB} {i R : Nat} : ∀ (L : List Nat) (st : TB), (∀ t, fitS e i R L st = some t → VS e i R st L t ∧ ∀ t', VS e i R st L t' → lexle t t') ∧ (fitS e i R L st = none → ∀ t', ¬ VS e i R st L t') := by
  intro L
  induction L with
  | nil =>
    intro st
    refine ⟨fun t h => ?_, fun h => by cases h⟩
    cases h
    exact ⟨rfl, fun _ _ => trivial⟩
  | cons c L ih =>
    intro st
    rw [fitS, List.range_eq_range']
    refine ⟨fun t h => ?_, fun h t' => ?_⟩
    · obtain ⟨r, -, hr, hF, hlt⟩ := fsm_some h
      rw [Nat.zero_add] at hr
      by_cases ho : opnS e i st r c = true
      · rw [if_pos ho] at hF
        cases hf : fitS e i R L (putS e st r c) with
        | none => rw [hf] at hF; cases hF
        | some s =>
          rw [hf] at hF
          cases hF
          have h1 := (ih (putS e st r c)).1 s hf
          refine ⟨⟨r, s, rfl, hr, ho, h1.1⟩, ?_⟩
          rintro t' ⟨r', s', rfl, hr', ho', hs'⟩
          by_cases hq : r' < r
          · have := hlt r' (by omega) hq
            rw [if_pos ho'] at this
            cases hf' : fitS e i R L (putS e st r' c) with
            | none => exact absurd hs' ((ih _).2 hf' s')
            | some s'' => rw [hf'] at this; cases this
          · by_cases hq' : r' = r
            · subst hq'
              exact Or.inr ⟨rfl, h1.2 s' hs'⟩
            · exact Or.inl (by omega)
      · rw [if_neg ho] at hF
        cases hF
    · rintro ⟨r, s, rfl, hr, ho, hs⟩
      have := fsm_none h r (by omega) (by omega)
      rw [if_pos ho] at this
      cases hf : fitS e i R L (putS e st r c) with
      | none => exact (ih _).2 hf s hs
      | some s' => rw [hf] at this; cases this
/-! sums -/
def smF (f : Nat → Nat) (p : Nat → Bool) : List Nat → Nat
  | [] => 0
  | c :: l => (if p c = true then f c else 0) + smF f p l
theorem smF_app {f : Nat → Nat} {p : Nat → Bool} {l m : List Nat} : smF f p (l ++ m) = smF f p l + smF f p m := by
  induction l with
  | nil => simp [smF]
  | cons c l ih => simp only [List.cons_append, smF]; omega
theorem smF_sub {f : Nat → Nat} {p : Nat → Bool} {l m : List Nat} (h : List.Sublist l m) : smF f p l ≤ smF f p m := by
  induction h with
  | slnil => exact Nat.le_refl _
  | cons a _ ih => simp only [smF]; omega
  | cons_cons a _ ih => simp only [smF]; omega
theorem smF_le {f : Nat → Nat} {p : Nat → Bool} {N : Nat} {l : List Nat} (h : ∀ c ∈ l, f c ≤ N) : smF f p l ≤ N * l.length := by
  induction l with
  | nil => simp [smF]
  | cons c l ih =>
    have h1 := h c List.mem_cons_self
    have h2 := ih (fun c hc => h c (List.mem_cons_of_mem _ hc))
    simp only [smF, List.length_cons, Nat.mul_succ]
    split <;> omega
theorem smF_congr {f : Nat → Nat} {p q : Nat → Bool} {l : List Nat} (h : ∀ c ∈ l, p c = q c) : smF f p l = smF f q l := by
  induction l with
  | nil => rfl
  | cons c l ih =>
    simp only [smF]
    rw [h c List.mem_cons_self, ih (fun c hc => h c (List.mem_cons_of_mem _ hc))]
theorem smF_ext {f : Nat → Nat} {p : Nat → Bool} {l m : List Nat} (h : List.Sublist l m) (hn : m.Nodup) (hp : ∀ c ∈ m, c ∉ l → p c = false) : smF f p m = smF f p l := by
  induction h with
  | slnil => rfl
  | cons a hs ih =>
    rw [List.nodup_cons] at hn
    have ha : p a = false := hp a List.mem_cons_self (fun q => hn.1 (hs.subset q))
    simp only [smF]
    rw [ha, if_neg (by decide), ih hn.2 (fun c hc hq => hp c (List.mem_cons_of_mem _ hc) hq), Nat.zero_add]
  | cons_cons a hs ih =>
    rw [List.nodup_cons] at hn
    simp only [smF]
    rw [ih hn.2 (fun c hc hq => hp c (List.mem_cons_of_mem _ hc) (fun q => by
      rw [List.mem_cons] at q
      rcases q with q | q
      · exact hn.1 (q ▸ hc)
      · exact hq q))]
def gN (e : TB) (c : Nat) : Nat := (e 19 c).toNatClampNeg
def bN (e : TB) (c : Nat) : Nat := (e 18 c).toNatClampNeg
def zN (e : TB) (i r : Nat) : Nat := (e (9 + i) r).toNatClampNeg
/-- caravans as an inn may have them -/
def OK (e : TB) (i R : Nat) (O : List Nat) : Prop := R ≤ 3 ∧ O.length ≤ 6 ∧ O.Nodup ∧ (∀ c ∈ O, isN (e 19 c) 1 9 ∧ isN (e 18 c) 1 30 ∧ isN (e 17 c) 0 3) ∧ isN (e 5 i) 0 60 ∧ ∀ r, r < R → isN (e (9 + i) r) 1 20
theorem isN_cl {x : Int32} {lo hi : Nat} (h : isN x lo hi) (hh : hi < 2 ^ 31) : x = nI x.toNatClampNeg ∧ lo ≤ x.toNatClampNeg ∧ x.toNatClampNeg ≤ hi := by
  obtain ⟨k, rfl, a, b⟩ := h
  rw [nI_clamp (by omega)]
  exact ⟨rfl, a, b⟩
/-- all of L in rooms, by α -/
def VL (e : TB) (i R : Nat) (α : Nat → Nat) (L : List Nat) : Prop := (∀ c ∈ L, α c < R) ∧ (∀ c ∈ L, ∀ c' ∈ L, α c = α c' → e 17 c = e 17 c') ∧ ∀ r, r < R → smF (gN e) (fun c => α c == r) L ≤ zN e i r
theorem VL_sub {e : TB} {i R : Nat} {α : Nat → Nat} {L M : List Nat} (h : VL e i R α M) (hs : List.Sublist L M) : VL e i R α L := ⟨fun c hc => h.1 c (hs.subset hc), fun c hc c' hc' => h.2.1 c (hs.subset hc) c' (hs.subset hc'), fun r hr => Nat.le_trans (smF_sub hs) (h.2.2 r hr)⟩
/-- what the rooms hold when L0 is laid by α -/
def SI (e : TB) (R : Nat) (α : Nat → Nat) (L0 : List Nat) (st : TB) : Prop := ∀ r, r < R → st 0 r = nI (smF (fun _ => 1) (fun c => α c == r) L0) ∧ st 1 r = nI (smF (gN e) (fun c => α c == r) L0) ∧ ∀ c ∈ L0, α c = r → st 2 r = e 17 c
theorem sm1_0 {p : Nat → Bool} {l : List Nat} (h : smF (fun _ => 1) p l = 0) : ∀ c ∈ l, p c = false := by
  induction l with
  | nil => intro c hc; cases hc
  | cons a l ih =>
    simp only [smF] at h
    intro c hc
    rw [List.mem_cons] at hc
    have ha : p a = false := by
      cases hq : p a with
      | false => rfl
      | true => rw [hq, if_pos rfl] at h; omega
    rcases hc with rfl | hc
    · exact ha
    · exact ih (by omega) c hc
theorem opn_iff {e : TB} {i R : Nat} {α : Nat → Nat} {L0 : List Nat} {c : Nat} {st : TB} (hR : ∀ r, r < R → isN (e (9 + i) r) 1 20) (hl : L0.length ≤ 6) (hg0 : ∀ c ∈ L0, isN (e 19 c) 1 9) (hg : isN (e 19 c) 1 9) (hS : SI e R α L0 st) (hV : VL e i R α L0) (hc : α c < R) : opnS e i st (α c) c = true ↔ VL e i R α (L0 ++ [c]) := by
  obtain ⟨s0, s1, s2⟩ := hS (α c) hc
  have hz := isN_cl (hR (α c) hc) (by decide)
  have hgc := isN_cl hg (by decide)
  have b1 : smF (gN e) (fun x => α x == α c) L0 ≤ 9 * L0.length := smF_le (fun c' hc' => (isN_cl (hg0 c' hc') (by decide)).2.2)
  have b0 : smF (fun _ => 1) (fun x => α x == α c) L0 ≤ 1 * L0.length := smF_le (fun _ _ => Nat.le_refl _)
  have hlt : e (9 + i) (α c) < st 1 (α c) + e 19 c ↔ zN e i (α c) < smF (gN e) (fun x => α x == α c) L0 + gN e c := by
    have z1 : e (9 + i) (α c) = nI (zN e i (α c)) := hz.1
    have g1 : e 19 c = nI (gN e c) := hgc.1
    have z2 : zN e i (α c) ≤ 20 := hz.2.2
    have g2 : gN e c ≤ 9 := hgc.2.2
    rw [s1, z1, g1, nI_add, nI_ltI (by omega) (by omega)]
  have hsum : ∀ r, smF (gN e) (fun x => α x == r) (L0 ++ [c]) = smF (gN e) (fun x => α x == r) L0 + (if α c = r then gN e c else 0) := by
    intro r
    rw [smF_app]
    simp only [smF]
    by_cases hq : α c = r
    · rw [if_pos hq, if_pos (by simpa using hq)]; omega
    · rw [if_neg hq, if_neg (by simpa using hq)]
  unfold opnS
  rw [Bool.and_eq_true, Bool.or_eq_true, decide_eq_true_eq, decide_eq_true_eq, Bool.not_eq_true', decide_eq_false_iff_not, hlt]
  constructor
  · rintro ⟨h1, h2⟩
    refine ⟨fun c' hc' => ?_, fun c1 h1' c2 h2' he => ?_, fun r hr => ?_⟩
    · rw [List.mem_append, List.mem_singleton] at hc'
      rcases hc' with q | q
      · exact hV.1 c' q
      · rw [q]; exact hc
    · -- kinds
      have key : ∀ x ∈ L0, α x = α c → e 17 x = e 17 c := by
        intro x hx hxc
        have h3 := s2 x hx hxc
        rcases h1 with q | q
        · rw [s0] at q
          have q0 := nIeq_lit (b := 0) q (by omega) (by decide)
          have := sm1_0 q0 x hx
          rw [beq_eq_false_iff_ne] at this
          exact absurd hxc this
        · rw [← h3, q]
      rw [List.mem_append, List.mem_singleton] at h1' h2'
      rcases h1' with a | a <;> rcases h2' with b | b
      · exact hV.2.1 c1 a c2 b he
      · rw [b] at he ⊢; exact key c1 a he
      · rw [a] at he ⊢; exact (key c2 b he.symm).symm
      · rw [a, b]
    · rw [hsum]
      have := hV.2.2 r hr
      by_cases hq : α c = r
      · rw [if_pos hq]; subst hq; omega
      · rw [if_neg hq]; omega
  · intro h
    refine ⟨?_, ?_⟩
    · by_cases h0 : smF (fun _ => 1) (fun x => α x == α c) L0 = 0
      · left; rw [s0, h0]; rfl
      · right
        have : ∃ x ∈ L0, α x = α c := by
          apply Classical.byContradiction
          intro hn
          apply h0
          have : smF (fun _ => 1) (fun x => α x == α c) L0 = smF (fun _ => 1) (fun _ => false) L0 := smF_congr (fun x hx => by
            rw [beq_eq_false_iff_ne]
            exact fun q => hn ⟨x, hx, q⟩)
          rw [this]
          clear this s0 s1 s2 b1 b0 hlt hsum h hn h0 hS hV hg0 hl
          induction L0 with
          | nil => rfl
          | cons a l ih => simp only [smF]; rw [if_neg (by decide), ih]
        obtain ⟨x, hx, hxc⟩ := this
        rw [s2 x hx hxc]
        exact h.2.1 x (List.mem_append_left _ hx) c (by simp) hxc
    · have := h.2.2 (α c) hc
      rw [hsum, if_pos rfl] at this
      omega
theorem SI_put {e : TB} {R : Nat} {α : Nat → Nat} {L0 : List Nat} {c : Nat} {st : TB} (hg : isN (e 19 c) 1 9) (hS : SI e R α L0 st) (hk : ∀ x ∈ L0, α x = α c → e 17 x = e 17 c) : SI e R α (L0 ++ [c]) (putS e st (α c) c) := by
  intro r hr
  obtain ⟨s0, s1, s2⟩ := hS r hr
  have hgc := isN_cl hg (by decide)
  rw [smF_app, smF_app]
  simp only [smF]
  unfold putS
  by_cases hq : α c = r
  · subst hq
    rw [if_pos (by simp)]
    refine ⟨?_, ?_, fun x hx hxc => ?_⟩
    · rw [u2_ne (by omega), u2_ne (by omega), u2_eq, s0, nI_1]
    · have g1 : e 19 c = nI (gN e c) := hgc.1
      rw [u2_ne (by omega), u2_eq, s1, g1, nI_add, if_pos (by simp), Nat.add_zero]
    · rw [u2_eq]
      rw [List.mem_append, List.mem_singleton] at hx
      rcases hx with hx | hx
      · exact (hk x hx hxc).symm
      · rw [hx]
  · rw [if_neg (by simpa using hq), if_neg (by simpa using hq)]
    refine ⟨?_, ?_, fun x hx hxc => ?_⟩
    · rw [u2_ne (by omega), u2_ne (by omega), u2_ne (by omega), s0]
      rfl
    · rw [u2_ne (by omega), u2_ne (by omega), u2_ne (by omega), s1]
      rfl
    · rw [u2_ne (by omega), u2_ne (by omega), u2_ne (by omega)]
      rw [List.mem_append, List.mem_singleton] at hx
      rcases hx with hx | hx
      · exact s2 x hx hxc
      · rw [hx] at hxc; exact absurd hxc hq
theorem VS_iff {e : TB} {i R : Nat} {α : Nat → Nat} (hR : ∀ r, r < R → isN (e (9 + i) r) 1 20) : ∀ (L L0 : List Nat) (st : TB), L0.length + L.length ≤ 6 → (∀ c ∈ L0, isN (e 19 c) 1 9) → (∀ c ∈ L, isN (e 19 c) 1 9) → SI e R α L0 st → VL e i R α L0 → (VS e i R st L (L.map α) ↔ VL e i R α (L0 ++ L)) := by
  intro L
  induction L with
  | nil =>
    intro L0 st hl h0 h1 hS hV
    rw [List.append_nil]
    exact ⟨fun _ => hV, fun _ => rfl⟩
  | cons c L ih =>
    intro L0 st hl h0 h1 hS hV
    simp only [List.length_cons] at hl
    have hgc := h1 c List.mem_cons_self
    have ih' := fun (hV' : VL e i R α (L0 ++ [c])) => ih (L0 ++ [c]) (putS e st (α c) c) (by simp; omega) (fun x hx => by
      rw [List.mem_append, List.mem_singleton] at hx
      rcases hx with q | q
      · exact h0 x q
      · rw [q]; exact hgc) (fun x hx => h1 x (List.mem_cons_of_mem _ hx)) (SI_put hgc hS (fun x hx hxc => hV'.2.1 x (List.mem_append_left _ hx) c (by simp) hxc)) hV'
    have e1 : L0 ++ c :: L = (L0 ++ [c]) ++ L := by simp
    rw [e1]
    constructor
    · rintro ⟨r, t', heq, hr, ho, hv⟩
      rw [List.map_cons] at heq
      have hh := List.cons.inj heq
      rw [← hh.1] at hr ho hv
      rw [← hh.2] at hv
      have hV' := (opn_iff hR (by omega) h0 hgc hS hV hr).mp ho
      exact (ih' hV').mp hv
    · intro h
      have hV' : VL e i R α (L0 ++ [c]) := VL_sub h (List.sublist_append_left _ _)
      have hr := hV'.1 c (by simp)
      exact ⟨α c, L.map α, rfl, hr, (opn_iff hR (by omega) h0 hgc hS hV hr).mpr hV', (ih' hV').mpr h⟩
theorem VS_z {e : TB} {i R : Nat} {α : Nat → Nat} {L : List Nat} (hR : ∀ r, r < R → isN (e (9 + i) r) 1 20) (hl : L.length ≤ 6) (h1 : ∀ c ∈ L, isN (e 19 c) 1 9) : VS e i R (fun _ _ => 0) L (L.map α) ↔ VL e i R α L := by
  refine VS_iff hR L [] _ (by simpa using hl) (fun _ h => by cases h) h1 (fun r hr => ⟨rfl, rfl, fun _ h => (by cases h)⟩) ⟨fun _ h => (by cases h), fun _ h => (by cases h), fun r hr => Nat.zero_le _⟩
