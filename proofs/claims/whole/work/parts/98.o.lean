/-! the reference's read -/
theorem nar255 (x : Int32) : vp_nar .byte x &&& 255 = x &&& 255 := by
  rw [vp_nar_byte]
  apply Int32.toBitVec_inj.mp
  rw [Int32.toBitVec_and, Int32.toBitVec_and]
  apply BitVec.eq_of_getLsbD_eq
  intro i hi
  rw [BitVec.getLsbD_and, BitVec.getLsbD_and]
  by_cases h8 : i < 8
  · have e : (x.toInt8.toInt32.toBitVec).getLsbD i = x.toBitVec.getLsbD i := by
      simp [BitVec.getElem_signExtend, h8, hi]
    rw [e]
  · have e : (Int32.toBitVec 255).getLsbD i = false := by
      have : i = 8 ∨ i = 9 ∨ i = 10 ∨ i = 11 ∨ i = 12 ∨ i = 13 ∨ i = 14 ∨ i = 15 ∨ i = 16 ∨ i = 17 ∨ i = 18 ∨ i = 19 ∨ i = 20 ∨ i = 21 ∨ i = 22 ∨ i = 23 ∨ i = 24 ∨ i = 25 ∨ i = 26 ∨ i = 27 ∨ i = 28 ∨ i = 29 ∨ i = 30 ∨ i = 31 := by omega
      rcases this with rfl | rfl | rfl | rfl | rfl | rfl | rfl | rfl | rfl | rfl | rfl | rfl | rfl | rfl | rfl | rfl | rfl | rfl | rfl | rfl | rfl | rfl | rfl | rfl <;> rfl
    rw [e, Bool.and_false, Bool.and_false]
def giF (ok : Nat → Nat → Prop) (σ τ : PS) : Prop := (∀ k j, ¬ ok k j → gi τ k j = gi σ k j) ∧ (∀ j, gl τ 139 j = gl σ 139 j) ∧ bkO τ = bkO σ ∧ drO τ = drO σ
theorem giF.tr {ok : Nat → Nat → Prop} {σ τ υ : PS} (h : giF ok σ τ) (g : giF ok τ υ) : giF ok σ υ := ⟨fun k j a => (g.1 k j a).trans (h.1 k j a), fun j => (g.2.1 j).trans (h.2.1 j), g.2.2.1.trans h.2.2.1, g.2.2.2.trans h.2.2.2⟩
theorem giF.mono {ok ok' : Nat → Nat → Prop} {σ τ : PS} (h : giF ok σ τ) (hk : ∀ k j, ok k j → ok' k j) : giF ok' σ τ := ⟨fun k j q => h.1 k j (fun z => q (hk k j z)), h.2⟩
theorem frR.g {ok : Nat → Nat → Prop} {σ τ : PS} (h : frR ok σ τ) : giF ok σ τ := ⟨h.1, fun j => h.2.1 139 j, h.2.2⟩
def okf (s : Nat) (k j : Nat) : Prop := okc s k j ∨ (k = 132 ∧ (j = 2 ∨ j = 4 ∨ j = 10 ∨ j = 17 ∨ j = 19)) ∨ (134 ≤ k ∧ k ≤ 137)
def okg (s : Nat) (k j : Nat) : Prop := okf s k j ∨ (k = 132 ∧ (j = 18 ∨ j = 58))
def R9 (s : Nat) (F : FQ) (σ0 : PS) (r : Int32 × PS) : Prop := gi r.2 132 2 = gi σ0 132 2 ∧ (∃ n g, CRn s n g r.2) ∧ ((F.1 = 0 ∧ F.2.2.2 = -1 ∧ r.1 = 0 ∧ gi r.2 132 17 = -1 ∧ gi r.2 132 18 = nI s ∧ gi r.2 132 58 = -1 ∧ gi r.2 140 s = nI F.2.2.1.length ∧ bmR r.2 s 0 F.2.2.1 ∧ giF (okg s) σ0 r.2) ∨ (((F.1 = 0 ∧ F.2.2.2 ≠ -1 ∧ r.1 = 5 ∧ gi r.2 132 17 = F.2.2.2) ∨ (F.1 ≠ 0 ∧ r.1 = nI F.1 ∧ gi r.2 132 17 = nI F.2.1)) ∧ giF (okf s) σ0 r.2))
theorem okc_f {s k j : Nat} (h : okc s k j) : okf s k j := Or.inl h
theorem n2_c {s : Nat} : ¬ okc s 132 2 := by unfold okc; omega
theorem r107 {K P : Nat → Nat} {V : Nat → Int32} {s : Nat} {F : FQ} {σ0 : PS} (hs : s ≤ 1) (hK : ∀ i, K i ≤ 26) (hV : ∀ i, K i = 2 → isN (V i) 0 9999) (hP : ∀ i j, i < j → (∀ q, q < j → K q ≠ 0) → P i < P j) (hP2 : ∀ i, P i ≤ 2000) : ∀ (q m t c g : Nat) (rs : List RU) (wr : Int32) (σ : PS), 401 ≤ t + q → RC K P V s t c g rs wr σ → wfQ (Z0 rs wr) → finR K P V t (Z0 rs wr) = F → frR (okc s) σ0 σ → hO (fX9_read_107 (m + q + 1) σ) (R9 s F σ0) := by
  intro q
  induction q with
  | zero =>
    intro m t c g rs wr σ hq h
    have := h.1.1
    omega
  | succ q ih =>
    intro m t c g rs wr σ hq h hw hF fr
    obtain ⟨⟨a1, a2⟩, ⟨i1, i2, i3, i4, i5⟩, a3, ⟨a4, a5⟩, ⟨a6, a7, a8⟩, a9, a10, a11⟩ := id h
    have hk := hK t
    rw [show m + (q + 1) + 1 = (m + q + 1) + 1 by omega, fX9_read_107, if_pos i3, is_eq (j := 0) (by rfl) (by decide) (by decide) hk i3 a1 i1 h.tok.1]
    simp only [Option.bind_some]
    rw [ite_tb]
    by_cases k0 : K t = 0
    · rw [if_pos (decide_eq_true k0)]
      have hfin : finR K P V t (Z0 rs wr) = (0, 0, rs, wr) := fin_end a1 (decide_eq_true (Or.inl k0)) k0
      rw [hfin] at hF
      rw [← hF]
      unfold fX9_read_129
      rw [i3, if_pos (by decide)]
      have hcr := h.crn
      rcases a3 with ⟨b1, b2⟩ | ⟨y, b1, b2, b3, b4⟩
      · rw [b2, if_pos (by decide)]
        unfold fX9_read_159
        rw [gi_nj (by decide), i3, if_pos (by decide), gi_nj (by decide), b2, if_pos (by decide), gi_nj (by decide), i4]
        generalize hτ : sI (sI (sI σ 132 17 (-1)) 132 18 (nI s)) 132 58 (-1) = τ
        have gn : ∀ k j, k ≠ 132 → gi τ k j = gi σ k j := fun k j z => by rw [← hτ, gi_ne z, gi_ne z, gi_ne z]
        have sB : sameB σ τ := fun k k1 k2 j => gn k j (by omega)
        refine ⟨(0, τ), rfl, ?_, ⟨rs.length, g, CRn_fr hcr (gn _ _ (by decide)) (gn _ _ (by decide)) (fun k i k1 k2 _ => gn _ _ (by omega)) (fun k i k1 k2 _ => gn _ _ (by omega))⟩, Or.inl ⟨rfl, b1, rfl, ?_, ?_, ?_, ?_, ?_, ?_⟩⟩
        · rw [← fr.1 132 2 n2_c, ← hτ, gi_nj (by decide), gi_nj (by decide), gi_nj (by decide)]
        · rw [← hτ, gi_nj (by decide), gi_nj (by decide), gi_eq]
        · rw [← hτ, gi_nj (by decide), gi_eq]
        · rw [← hτ, gi_eq]
        · show gi τ 140 s = nI rs.length
          rw [gn _ _ (by decide)]; exact a7
        · refine bmP_R (c := c) (g := g) hs (by omega) (by omega) (fun i r hi => ?_)
          rw [Nat.zero_add]
          exact bmP_fr a9 ⟨fun k i k1 k2 _ => gn _ _ (by omega), fun k i k1 k2 _ => gn _ _ (by omega), fun j _ _ => ⟨gn _ _ (by decide), gn _ _ (by decide)⟩⟩ (Nat.le_refl _) (Nat.le_refl _) i r hi
        · rw [← hτ]
          refine frR.g ((((fr.mono (fun k j z => Or.inl (okc_f z))).i ?_).i ?_).i ?_)
          · exact Or.inl (Or.inr (Or.inl ⟨rfl, by omega⟩))
          · exact Or.inr ⟨rfl, by omega⟩
          · exact Or.inr ⟨rfl, by omega⟩
      · rw [b3, if_neg (by decide), b4]
        unfold fX9_read_159
        rw [gi_nj (by decide), i3, if_pos (by decide), gi_nj (by decide), b3, if_neg (by decide)]
        have hwm : wr ≠ -1 := by rw [b2]; exact nI_m1 (by have := hP2 y; omega)
        refine ⟨(5, sI σ 132 17 wr), rfl, ?_, ⟨rs.length, g, CRn_2 hcr⟩, Or.inr ⟨Or.inl ⟨rfl, hwm, rfl, gi_eq⟩, ?_⟩⟩
        · rw [← fr.1 132 2 n2_c, gi_nj (by decide)]
        · exact frR.g ((fr.mono (fun k j z => okc_f z)).i (Or.inr (Or.inl ⟨rfl, by omega⟩)))
    · rw [if_neg (fun z => k0 (of_decide_eq_true z))]
      have tl := tell_ok hs hK hV hP hP2 h k0 hw
      rw [hF] at tl
      refine hO.then tl (fun τ ⟨f1, hp⟩ => ?_)
      rcases hp with ⟨t', c', g', rs', wr', y1, y2, y3, y4⟩ | ⟨fl, n, g', cr⟩
      · exact ih m t' c' g' rs' wr' τ (by omega) y4 y3 y2 (fr.tr f1)
      · obtain ⟨⟨z1, z2⟩, z3, z4, _⟩ := fl
        have z0 : ¬ nI F.1 = 0 := e_ne (k := 0) (by rfl) z1 (by omega) (by decide)
        have zl : ¬ nI F.1 ≤ 0 := r_nle (k := 0) (by rfl) (by omega) (by omega)
        rw [fX9_read_107, z3, if_neg z0]
        unfold fX9_read_129
        rw [z3, if_neg zl]
        unfold fX9_read_159
        rw [gi_nj (by decide), z3, if_neg zl, z4]
        refine ⟨_, rfl, ?_, ⟨n, g', CRn_2 cr⟩, Or.inr ⟨Or.inr ⟨z1, rfl, gi_eq⟩, ?_⟩⟩
        · rw [← (fr.tr f1).1 132 2 n2_c, gi_nj (by decide)]
        · exact frR.g (((fr.tr f1).mono (fun k j z => okc_f z)).i (Or.inr (Or.inl ⟨rfl, by omega⟩)))
theorem to_mono {f : Nat → Int32} {n : Nat} : ∀ (j i : Nat), i < j → (∀ q, q < j → kdS (txS f n) n q ≠ 0) → toS (txS f n) n i < toS (txS f n) n j := by
  have step : ∀ i, kdS (txS f n) n i ≠ 0 → toS (txS f n) n i < toS (txS f n) n (i + 1) := by
    intro i hk
    have hlt : toS (txS f n) n i < n := by
      by_cases z : toS (txS f n) n i < n
      · exact z
      · have : kdS (txS f n) n i = 0 := by
          show tkK (txS f n) n (toS (txS f n) n i) = 0
          unfold tkK
          rw [if_pos (by omega)]
        exact absurd this hk
    have h1 := (tkE_gt (f := f) hlt).1
    have h2 : psS (txS f n) n (i + 1) ≤ toS (txS f n) n (i + 1) := runS_le.1
    have h3 : psS (txS f n) n (i + 1) = tkE (txS f n) n (toS (txS f n) n i) := rfl
    omega
  intro j
  induction j with
  | zero => intro i hi; omega
  | succ j ih =>
    intro i hi hz
    have h1 := step j (hz j (by omega))
    by_cases z : i = j
    · rw [z]; exact h1
    · have := ih i (by omega) (fun q hq => hz q (by omega))
      omega
