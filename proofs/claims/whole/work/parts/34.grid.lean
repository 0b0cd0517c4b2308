section ZG
variable {g : GP} {M M' : Mth} {d dc nc ns mc ms na : Nat} {post : Option Value → PH → Prop} {pc : Nat} {L : List (Nat × Value)} {st av : List Value} {n n1 ci N K index : Nat} {C : String} {T : u_T} {vi vi1 : Nat → Nat → Int32} {vl vl1 : Nat → Nat → Int64} {vr vr1 : Nat → Nat → Option Nat}
theorem Z_mna {cn ck : Int32} (hcn : cn = nI N) (hck : ck = nI K) (hN : N < 1000) (hK : K < 1000) (ho : SH0.2 n = (14, N)) (hor : ∀ j, j < N → SH0.2 (n + 1 + j) = (10, K)) (hk : OKH n vi vl vr) (hn : n + 1 + N ≤ SB) (hL : lok n L = true) (hS : sok n st = true) (hcl : Cond.classLink M.1.cls index "[[I" ∈ TBL) (hd : decode M.2.1 pc = .ok (.multianewarray index 2, 4)) (kk : X g M d nc ns post (pc + 4) L (.ref n :: st) (HN (n + 1 + N) vi vl (rG vr n N))) : X g M d (nc + (1 + N)) (ns + (N + N * K)) post pc L (.int ck :: .int cn :: st) (HN n vi vl vr) := by
  subst hcn
  subst hck
  intro p e R s m args below meth c D dA A Q ad H locs cells slots ls hM hW hc hs hl ret
  have hts := hM.1.2.2.2.2
  have hov : (Cond.arrayOver (.array .int)).before args s = true := by
    have h1 := hM.2.1 (.arrayOver (.array .int)) (nin1 47 rfl rfl)
    obtain ⟨comp, c, k, h1, h2, h3, h4, h5⟩ := arrayOverA_spec h1
    simp only [Cond.before, Cond.holds, Cond.value, h1, Option.bind_some]
    generalize hX : Array.findIdx? _ s.vm.classes = Y
    have hY : Y = some c := hX.symm.trans h2
    subst hY
    simp [h3, h4, h5]
  refine W_mna (rest := st.map (tr ad)) hM.1.1 hM.1.2.1 hM.1.2.2.2.1 (hts _ hcl) hov (hts _ (tin1 130 rfl rfl)) hd N K hN hK (by omega) (by omega) (fun H1 cA comp fA fC hG => ?_)
  obtain ⟨g1, g2, g3, g4⟩ := hG
  have hcA : cA = dA 14 := by
    have h2 := (hM.2.2.1.2 4 (dA 14, .array .int) rfl).2
    exact Option.some.inj (fA.symm.trans h2)
  have hcC : comp = dA 10 := by
    have h2 := (hM.2.2.1.2 0 (dA 10, .int) rfl).2
    exact Option.some.inj (fC.symm.trans h2)
  subst hcA
  subst hcC
  generalize had : (fun k => if n ≤ k ∧ k < n + 1 + N then H.size + (k - n) else ad k) = ad'
  have hin : ∀ k, n ≤ k → k < n + 1 + N → ad' k = H.size + (k - n) := fun k h1 h2 => by rw [← had]; exact if_pos ⟨h1, h2⟩
  have hout : ∀ k, k < n ∨ n + 1 + N ≤ k → ad' k = ad k := fun k h => by
    rw [← had]
    exact if_neg (by omega)
  have hag : AGn ad ad' n := fun k h => hout k (by omega)
  have hlt : ∀ k, k < n → ad k < H.size := fun k hkn => (hW.1 k (ad k, cE dA ad (HN n vi vl vr) k) (wl_get (h := HN n vi vl vr) hkn)).lt
  have hvr : ∀ k, k < n → ∀ j, rG vr n N k j = vr k j := fun k hkn j => by unfold rG; rw [if_neg (by omega)]
  have hold : ∀ k, k < n → cE dA ad' (HN (n + 1 + N) vi vl (rG vr n N)) k = cE dA ad (HN n vi vl vr) k := fun k hkn => by
    have e1 := wl_ag (dA := dA) hag hk hkn
    rw [← e1]
    unfold cE fvE HN
    simp only [hvr k hkn]
  have hP : va_P D clX (wl dA ad' (HN (n + 1 + N) vi vl (rG vr n N))) H1 := by
    intro k q hq
    obtain ⟨hkn, rfl⟩ := wl_at hq
    have hkn : k < n + 1 + N := hkn
    rcases Nat.lt_or_ge k n with h1 | h1
    · rw [hold k h1, hout k (Or.inl h1)]
      exact (hW.1 k (ad k, cE dA ad (HN n vi vl vr) k) (wl_get (h := HN n vi vl vr) h1)).kept (g4 (ad k) (hlt k h1))
    · rw [hin k h1 hkn]
      rcases Nat.eq_or_lt_of_le h1 with h2 | h2
      · subst h2
        rw [cE_refs (h := HN (n + 1 + N) vi vl (rG vr n N)) ho, Nat.sub_self]
        show H1[H.size]? = some (arrV (dA 14) N (fun j => va_rf ((rG vr n N n j).map ad')))
        rw [g2]
        unfold gridO
        congr 2
        funext j
        unfold rG
        rw [if_pos rfl]
        by_cases hj : j < N
        · rw [if_pos hj, if_pos hj, Option.map_some, hin (n + 1 + j) (by omega) (by omega)]
          have e9 : H.size + (n + 1 + j - n) = H.size + 1 + j := by omega
          rw [e9]
          rfl
        · rw [if_neg hj, if_neg hj]
          rfl
      · obtain ⟨j, rfl⟩ : ∃ j, k = n + 1 + j := ⟨k - n - 1, by omega⟩
        have hj : j < N := by omega
        rw [cE_arr (h := HN (n + 1 + N) vi vl (rG vr n N)) (hor j hj) (by decide) (by decide) (by decide)]
        show H1[H.size + (n + 1 + j - n)]? = some (arrV (dA 10) K (fun i => .int (vi (n + 1 + j) i)))
        have e0 : (fun i => Value.int (vi (n + 1 + j) i)) = fun _ => .int 0 := by
          funext i
          rw [(hk.1 (n + 1 + j) (by omega) i).1]
        rw [e0, show H.size + (n + 1 + j - n) = H.size + 1 + j by omega]
        exact g3 j hj
  have hD : va_D A (wl dA ad' (HN (n + 1 + N) vi vl (rG vr n N))) := by
    refine ⟨fun i j x y hi hj hxy => ?_, fun k q hq => ?_⟩
    · obtain ⟨hi1, rfl⟩ := wl_at hi
      obtain ⟨hj1, rfl⟩ := wl_at hj
      have hi1 : i < n + 1 + N := hi1
      have hj1 : j < n + 1 + N := hj1
      have hxy : ad' i = ad' j := hxy
      rcases Nat.lt_or_ge i n with h1 | h1 <;> rcases Nat.lt_or_ge j n with h2 | h2
      · rw [hout i (Or.inl h1), hout j (Or.inl h2)] at hxy
        exact hW.2.1.1 i j _ _ (wl_get (h := HN n vi vl vr) h1) (wl_get (h := HN n vi vl vr) h2) hxy
      · rw [hout i (Or.inl h1), hin j h2 hj1] at hxy
        have := hlt i h1
        omega
      · rw [hin i h1 hi1, hout j (Or.inl h2)] at hxy
        have := hlt j h2
        omega
      · rw [hin i h1 hi1, hin j h2 hj1] at hxy
        omega
    · obtain ⟨hkn, rfl⟩ := wl_at hq
      have hkn : k < n + 1 + N := hkn
      show A (ad' k)
      rcases Nat.lt_or_ge k n with h1 | h1
      · rw [hout k (Or.inl h1)]
        exact hW.2.1.2 k _ (wl_get (h := HN n vi vl vr) h1)
      · rw [hin k h1 hkn]
        exact hM.2.2.2.2.2.1 _ (by have := hW.2.2.1; omega)
  have hSS : va_S A s.heap H1 (locs ++ (List.range N).map (fun j => ⟨H.size, j⟩)) := by
    refine ⟨by rw [g1]; have := hW.2.2.1; omega, fun q h1 h2 => (g4 q (Nat.lt_of_lt_of_le h1 hW.2.2.1)).trans (hW.2.2.2.1 q h1 h2), fun q hq => ?_⟩
    rcases List.mem_append.mp hq with h | h
    · exact hW.2.2.2.2 q h
    · obtain ⟨j, -, rfl⟩ := List.mem_map.mp h
      exact hM.2.2.2.2.2.1 _ hW.2.2.1
  have e2 : (Value.ref H.size :: st.map (tr ad)) = (.ref n :: st).map (tr ad') := by
    show _ = Value.ref (ad' n) :: _
    rw [st_ag hag hS, hin n (Nat.le_refl _) (by omega), Nat.sub_self]
    rfl
  rw [e2]
  refine kk p e R s m args below meth c D dA A Q ad' H1 _ (cells + 1 + N) (slots + N + N * K) ls (MC_ag (fun k hk => hag k (Or.inr hk)) hM) ⟨hP, hD, hSS⟩ (by omega) (by omega) (by rw [L_ag hag hL]; exact hl) ?_
  intro v h2 ad2 H' locs' cells' slots' ls' pc' ri z1 z2 z3 z4 z5 z6 z7
  exact ret v h2 ad2 H' locs' cells' slots' ls' pc' ri z1 z2 z3 (AG_of (n := n) (n' := n + 1 + N) hout (by omega) z4) z5 z6 z7
end ZG
