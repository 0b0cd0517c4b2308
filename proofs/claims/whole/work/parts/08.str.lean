abbrev mJ0_coder_7d493 : Mth := (yJ0_coder_7d493, cJ0_coder_7d493, 1, some .byte)
def kJ0_coder_7d493 : List (Nat × Instr × Nat) := [(0, .getstatic 38, 3), (3, .ifCond .eq 10, 3), (6, .aload_n 0, 1), (7, .getfield 15, 3), (10, .goto 4, 3), (13, .iconst 1, 1), (14, .ireturn, 1)]
theorem KJ0_coder_7d493 : ∀ q ∈ kJ0_coder_7d493, decode cJ0_coder_7d493 q.1 = .ok q.2 := by decide +kernel
abbrev mJ0_isLatin1_aae02 : Mth := (yJ0_isLatin1_aae02, cJ0_isLatin1_aae02, 1, some .boolean)
def kJ0_isLatin1_aae02 : List (Nat × Instr × Nat) := [(0, .getstatic 38, 3), (3, .ifCond .eq 14, 3), (6, .aload_n 0, 1), (7, .getfield 15, 3), (10, .ifCond .ne 7, 3), (13, .iconst 1, 1), (14, .goto 4, 3), (17, .iconst 0, 1), (18, .ireturn, 1)]
theorem KJ0_isLatin1_aae02 : ∀ q ∈ kJ0_isLatin1_aae02, decode cJ0_isLatin1_aae02 q.1 = .ok q.2 := by decide +kernel
abbrev mJ0_length_8abf5 : Mth := (yJ0_length_8abf5, cJ0_length_8abf5, 1, some .int)
def kJ0_length_8abf5 : List (Nat × Instr × Nat) := [(0, .aload_n 0, 1), (1, .getfield 9, 3), (4, .arraylength, 1), (5, .aload_n 0, 1), (6, .invokevirtual 335, 3), (9, .ishr, 1), (10, .ireturn, 1)]
theorem KJ0_length_8abf5 : ∀ q ∈ kJ0_length_8abf5, decode cJ0_length_8abf5 q.1 = .ok q.2 := by decide +kernel
abbrev mJ3_checkIndex_8e157 : Mth := (yJ3_checkIndex_8e157, cJ3_checkIndex_8e157, 3, some .int)
def kJ3_checkIndex_8e157 : List (Nat × Instr × Nat) := [(0, .iload_n 0, 1), (1, .ifCond .lt 8, 3), (4, .iload_n 0, 1), (5, .iload_n 1, 1), (6, .if_icmp .lt 10, 3), (9, .aload_n 2, 1), (10, .iload_n 0, 1), (11, .iload_n 1, 1), (12, .invokestatic 95, 3), (15, .athrow, 1), (16, .iload_n 0, 1), (17, .ireturn, 1)]
theorem KJ3_checkIndex_8e157 : ∀ q ∈ kJ3_checkIndex_8e157, decode cJ3_checkIndex_8e157 q.1 = .ok q.2 := by decide +kernel
abbrev mJ0_checkIndex_df160 : Mth := (yJ0_checkIndex_df160, cJ0_checkIndex_df160, 2, none)
def kJ0_checkIndex_df160 : List (Nat × Instr × Nat) := [(0, .iload_n 0, 1), (1, .iload_n 1, 1), (2, .getstatic 1053, 3), (5, .invokestatic 1059, 3), (8, .pop, 1), (9, .return_, 1)]
theorem KJ0_checkIndex_df160 : ∀ q ∈ kJ0_checkIndex_df160, decode cJ0_checkIndex_df160 q.1 = .ok q.2 := by decide +kernel
abbrev mJ1_charAt_3b067 : Mth := (yJ1_charAt_3b067, cJ1_charAt_3b067, 2, some .char)
def kJ1_charAt_3b067 : List (Nat × Instr × Nat) := [(0, .iload_n 1, 1), (1, .aload_n 0, 1), (2, .arraylength, 1), (3, .invokestatic 9, 3), (6, .aload_n 0, 1), (7, .iload_n 1, 1), (8, .baload, 1), (9, .sipush 255, 3), (12, .iand, 1), (13, .i2c, 1), (14, .ireturn, 1)]
theorem KJ1_charAt_3b067 : ∀ q ∈ kJ1_charAt_3b067, decode cJ1_charAt_3b067 q.1 = .ok q.2 := by decide +kernel
abbrev mJ0_charAt_5068e : Mth := (yJ0_charAt_5068e, cJ0_charAt_5068e, 2, some .char)
def kJ0_charAt_5068e : List (Nat × Instr × Nat) := [(0, .aload_n 0, 1), (1, .invokevirtual 492, 3), (4, .ifCond .eq 12, 3), (7, .aload_n 0, 1), (8, .getfield 9, 3), (11, .iload_n 1, 1), (12, .invokestatic 495, 3), (15, .ireturn, 1), (16, .aload_n 0, 1), (17, .getfield 9, 3), (20, .iload_n 1, 1), (21, .invokestatic 498, 3), (24, .ireturn, 1)]
theorem KJ0_charAt_5068e : ∀ q ∈ kJ0_charAt_5068e, decode cJ0_charAt_5068e q.1 = .ok q.2 := by decide +kernel
theorem cbJ0_coder_7d493 : CB mJ0_coder_7d493 0 := ⟨tin1 11 rfl rfl, tin2 203 rfl rfl, ⟨by decide, by decide, by decide +kernel⟩, by decide⟩
theorem cbJ0_isLatin1_aae02 : CB mJ0_isLatin1_aae02 0 := ⟨tin1 11 rfl rfl, tin2 213 rfl rfl, ⟨by decide, by decide, by decide +kernel⟩, by decide⟩
theorem cbJ0_length_8abf5 : CB mJ0_length_8abf5 0 := ⟨tin1 11 rfl rfl, tin2 199 rfl rfl, ⟨by decide, by decide, by decide +kernel⟩, by decide⟩
theorem cbJ3_checkIndex_8e157 : CB mJ3_checkIndex_8e157 3 := ⟨tin1 13 rfl rfl, tin2 224 rfl rfl, ⟨by decide, by decide, by decide +kernel⟩, by decide⟩
theorem cbJ0_checkIndex_df160 : CB mJ0_checkIndex_df160 2 := ⟨tin1 11 rfl rfl, tin2 219 rfl rfl, ⟨by decide, by decide, by decide +kernel⟩, by decide⟩
theorem cbJ1_charAt_3b067 : CB mJ1_charAt_3b067 2 := ⟨tin1 12 rfl rfl, tin2 216 rfl rfl, ⟨by decide, by decide, by decide +kernel⟩, by decide⟩
theorem cbJ0_charAt_5068e : CB mJ0_charAt_5068e 1 := ⟨tin1 11 rfl rfl, tin2 209 rfl rfl, ⟨by decide, by decide, by decide +kernel⟩, by decide⟩
section XS
variable {g : GP} {M M' : Mth} {d dc nc ns n : Nat} {post postc : Option Value → PH → Prop} {pc : Nat} {L : List (Nat × Value)} {st : List Value} {h : PH} {index : Nat}
theorem X_ldcS (hcl : M.1.cls = RX6) (hd : decode M.2.1 pc = .ok (.ldc 65, 2)) (k : X g M d nc ns post (pc + 2) L (.ref SB :: st) h) : X g M d nc ns post pc L st h := by
  intro p e R s m args below meth c D dA A Q ad H locs cells slots ls hM hW hc hs hl ret
  obtain ⟨e1, e2, e3, ez, e4, e5, e6⟩ := hM.2.2.2.2.2.2
  exact va_ldcS hM.1.1 hM.1.2.1 (by rw [← hcl]; exact hM.1.2.2.2.1) e1 hd (k p e R s m args below meth c D dA A Q ad H locs cells slots ls hM hW hc hs hl ret)
theorem X_sval (hw : Cond.fieldLink M.1.cls index "java/lang/String" "value" "[B" ∈ TBL) (hd : decode M.2.1 pc = .ok (.getfield index, 3)) (k : X g M d nc ns post (pc + 3) L (.ref (SB + 1) :: st) h) : X g M d nc ns post pc L (.ref SB :: st) h := by
  intro p e R s m args below meth c D dA A Q ad H locs cells slots ls hM hW hc hs hl ret
  obtain ⟨e1, e2, e3, ez, e4, e5, e6⟩ := hM.2.2.2.2.2.2
  exact vk_getf hM.1.1 hM.1.2.1 (e2.1 0 (by decide)).2.2.1 hW.2.2 hM.1.2.2.2.1 (hM.1.2.2.2.2 _ hw) (fun _ q => q) hd (k p e R s m args below meth c D dA A Q ad H locs cells slots ls hM hW hc hs hl ret)
theorem X_scod (hw : Cond.fieldLink M.1.cls index "java/lang/String" "coder" "B" ∈ TBL) (hd : decode M.2.1 pc = .ok (.getfield index, 3)) (k : X g M d nc ns post (pc + 3) L (.int 0 :: st) h) : X g M d nc ns post pc L (.ref SB :: st) h := by
  intro p e R s m args below meth c D dA A Q ad H locs cells slots ls hM hW hc hs hl ret
  obtain ⟨e1, e2, e3, ez, e4, e5, e6⟩ := hM.2.2.2.2.2.2
  exact vk_getf hM.1.1 hM.1.2.1 (e2.1 0 (by decide)).2.1 hW.2.2 hM.1.2.2.2.1 (hM.1.2.2.2.2 _ hw) (fun _ q => q) hd (k p e R s m args below meth c D dA A Q ad H locs cells slots ls hM hW hc hs hl ret)
theorem X_scmp (hw : Cond.fieldLink M.1.cls index "java/lang/String" "COMPACT_STRINGS" "Z" ∈ TBL) (hd : decode M.2.1 pc = .ok (.getstatic index, 3)) (k : X g M d nc ns post (pc + 3) L (.int 1 :: st) h) : X g M d nc ns post pc L st h := by
  intro p e R s m args below meth c D dA A Q ad H locs cells slots ls hM hW hc hs hl ret
  obtain ⟨e1, e2, e3, ez, e4, e5, e6⟩ := hM.2.2.2.2.2.2
  exact va_gets hM.1.1 hM.1.2.1 e3 hW.2.2 hM.1.2.2.2.1 (hM.1.2.2.2.2 _ hw) (fun _ q => q) hd (k p e R s m args below meth c D dA A Q ad H locs cells slots ls hM hW hc hs hl ret)
theorem X_ssio (hw : Cond.fieldLink M.1.cls index "jdk/internal/util/Preconditions" "SIOOBE_FORMATTER" "Ljava/util/function/BiFunction;" ∈ TBL) (hd : decode M.2.1 pc = .ok (.getstatic index, 3)) (k : ∀ z : Value, (z = .null ∨ z = .ref (SB + 3)) → X g M d nc ns post (pc + 3) L (z :: st) h) : X g M d nc ns post pc L st h := by
  intro p e R s m args below meth c D dA A Q ad H locs cells slots ls hM hW hc hs hl ret
  obtain ⟨e1, e2, e3, ⟨z, hz, ez⟩, e4, e5, e6⟩ := hM.2.2.2.2.2.2
  exact va_gets hM.1.1 hM.1.2.1 ez hW.2.2 hM.1.2.2.2.1 (hM.1.2.2.2.2 _ hw) (fun _ q => q) hd (k z hz p e R s m args below meth c D dA A Q ad H locs cells slots ls hM hW hc hs hl ret)
theorem X_svl (hd : decode M.2.1 pc = .ok (.arraylength, 1)) (k : X g M d nc ns post (pc + 1) L (.int 70 :: st) h) : X g M d nc ns post pc L (.ref (SB + 1) :: st) h := by
  intro p e R s m args below meth c D dA A Q ad H locs cells slots ls hM hW hc hs hl ret
  obtain ⟨e1, e2, e3, ez, e4, e5, e6⟩ := hM.2.2.2.2.2.2
  exact va_tlen hM.1.1 hM.1.2.1 (e2.1 0 (by decide)).2.2.2 hW.2.2 rfl hd (k p e R s m args below meth c D dA A Q ad H locs cells slots ls hM hW hc hs hl ret)
theorem X_svb {i : Int32} (hi : vp_in i 70) (hd : decode M.2.1 pc = .ok (.baload, 1)) (k : X g M d nc ns post (pc + 1) L (.int (byW.getD i.toNatClampNeg 0) :: st) h) : X g M d nc ns post pc L (.int i :: .ref (SB + 1) :: st) h := by
  intro p e R s m args below meth c D dA A Q ad H locs cells slots ls hM hW hc hs hl ret
  obtain ⟨e1, e2, e3, ez, e4, e5, e6⟩ := hM.2.2.2.2.2.2
  exact va_tb hM.1.1 hM.1.2.1 (e2.1 0 (by decide)).2.2.2 hW.2.2 hi rfl hd (k p e R s m args below meth c D dA A Q ad H locs cells slots ls hM hW hc hs hl ret)
theorem X_pop {va : Value} (hd : decode M.2.1 pc = .ok (.pop, 1)) (hva : va.category = 1) (k : X g M d nc ns post (pc + 1) L st h) : X g M d nc ns post pc L (va :: st) h := by
  intro p e R s m args below meth c D dA A Q ad H locs cells slots ls hM hW hc hs hl ret
  exact lv_pop hM.1.1 hM.1.2.1 hd (by rw [tr_cat]; exact hva) (k p e R s m args below meth c D dA A Q ad H locs cells slots ls hM hW hc hs hl ret)
theorem X_i2c {x : Int32} (v : Int32) (hv : (x.toUInt32 % 65536).toInt32 = v) (hd : decode M.2.1 pc = .ok (.i2c, 1)) (k : X g M d nc ns post (pc + 1) L (.int v :: st) h) : X g M d nc ns post pc L (.int x :: st) h := by
  intro p e R s m args below meth c D dA A Q ad H locs cells slots ls hM hW hc hs hl ret
  exact lv_i2c hM.1.1 hM.1.2.1 hd hv (k p e R s m args below meth c D dA A Q ad H locs cells slots ls hM hW hc hs hl ret)
theorem X_callVS {av : List Value} (cb : CB M' n) (hC0 : M'.1.cls = "java/lang/String") (hl1 : Cond.methodLink M.1.cls index M'.1 ∈ TBL) (hl2 : Cond.instanceMethod M'.1 ∈ TBL) (hl3 : Cond.selects M'.1.cls M'.1 M'.1 ∈ TBL) (hav : av.length = n) (hdd : dc + 1 ≤ d) (hsum : (st.map fun v => v.category).sum ≤ 8) (hd : decode M.2.1 pc = .ok (.invokevirtual index, 3))
    (hC : CON g M' dc 0 0 (.ref SB :: av) h postc) (hst : ∀ v h', postc v h' → h'.1.1 = h.1.1) (kk : ∀ v h', postc v h' → X g M d nc ns post (pc + 3) L (v.toList ++ st) h') : X g M d nc ns post pc L (av.reverse ++ .ref SB :: st) h := by
  intro p e R s m args below meth c D dA A Q ad H locs cells slots ls hM hW hc hs hl ret
  have ht := hM.1.2.2.2.2
  obtain ⟨hAA, hPRE⟩ := PRE_of hM hW
  obtain ⟨hf1, hf2⟩ := hM.2.2.2.2.1
  obtain ⟨e1, e2, e3, ez, e4, e5, e6⟩ := hM.2.2.2.2.2.2
  have hml := cb.2.2.2
  have hG : GoodIn TBL (wsV M.1.cls index M'.1.cls M'.1 (wsM M')) := good_TBL (fun w hw => by
    rcases List.mem_append.mp hw with hw | hw
    · simp only [List.mem_cons, List.not_mem_nil, or_false] at hw
      rcases hw with rfl | rfl | rfl | rfl
      · exact hl1
      · exact hl2
      · exact hl3
      · exact cb.1
    · exact (cb.ws w hw).1)
  have e0 : (av.reverse ++ .ref SB :: st).map (tr ad) = (av.map (tr ad)).reverse ++ .ref (ad SB) :: st.map (tr ad) := by
    rw [List.map_append, List.map_reverse]
    rfl
  rw [e0]
  refine X_behind hM hW hc hs hl ret (va_runV (As := av.map (tr ad)) (rest := st.map (tr ad)) ⟨hM.1.1, hM.1.2.1, hM.1.2.2.1, hM.1.2.2.2.1, ht⟩ (hC D dA ad H.size) (cwV n ht hG rfl rfl rfl ⟨rfl, cb.2.2.1⟩ ⟨by show dc + 1 ≤ R.frames; omega, by show 8 + (_ + 11) + 64 * dc ≤ R.locals; omega⟩) ⟨PRE_blind, ?_, fun U hU hWm => ⟨rfl, hPRE U hU hWm⟩⟩ rfl (by rw [List.length_map]; exact hav) hl.1 rfl (lv_room (by rw [sum_tr]; exact hsum)) hd ⟨by omega, by omega⟩) hst kk
  rw [hC0]
  exact vk_recv (i := 0) (adK := fun _ => ad SB) e2 (by decide) hW.2.2
/-- an answer, the heap as it was -/
def pS (x : Option Value) (h : PH) : Option Value → PH → Prop := fun v h' => v = x ∧ h' = h
theorem pS_st {x : Option Value} : ∀ v h', pS x h v h' → h'.1.1 = h.1.1 := fun v h' q => by rw [q.2]
theorem cJ_coder : CON g mJ0_coder_7d493 0 0 0 [.ref SB] h (pS (some (.int 0)) h) := by
  refine CON.of (by decide) (by decide) ?_
  show X g _ _ _ _ _ 0 [(0, .ref SB)] [] _
  refine X_scmp (tin2 204 rfl rfl) (dk KJ0_coder_7d493 0 rfl) ?_
  refine X_if_eq 13 (dk KJ0_coder_7d493 1 rfl) (by decide) (fun hc => absurd hc (by decide)) (fun hc => ?_)
  refine X_aload_n 0 rfl (dk KJ0_coder_7d493 2 rfl) ?_
  refine X_scod (tin6 75 rfl rfl) (dk KJ0_coder_7d493 3 rfl) ?_
  refine X_goto 14 (dk KJ0_coder_7d493 4 rfl) (by decide) ?_
  exact X_ireturn (ty := .byte) (dk KJ0_coder_7d493 6 rfl) rfl (by decide) ⟨rfl, rfl⟩
theorem cJ_latin : CON g mJ0_isLatin1_aae02 0 0 0 [.ref SB] h (pS (some (.int 1)) h) := by
  refine CON.of (by decide) (by decide) ?_
  show X g _ _ _ _ _ 0 [(0, .ref SB)] [] _
  refine X_scmp (tin2 204 rfl rfl) (dk KJ0_isLatin1_aae02 0 rfl) ?_
  refine X_if_eq 17 (dk KJ0_isLatin1_aae02 1 rfl) (by decide) (fun hc => absurd hc (by decide)) (fun hc => ?_)
  refine X_aload_n 0 rfl (dk KJ0_isLatin1_aae02 2 rfl) ?_
  refine X_scod (tin6 75 rfl rfl) (dk KJ0_isLatin1_aae02 3 rfl) ?_
  refine X_if_ne 17 (dk KJ0_isLatin1_aae02 4 rfl) (by decide) (fun hc => absurd rfl hc) (fun hc => ?_)
  refine X_iconst (dk KJ0_isLatin1_aae02 5 rfl) 1 (by decide) ?_
  refine X_goto 18 (dk KJ0_isLatin1_aae02 6 rfl) (by decide) ?_
  exact X_ireturn (ty := .boolean) (dk KJ0_isLatin1_aae02 8 rfl) rfl (by decide) ⟨rfl, rfl⟩
theorem cJ_length : CON g mJ0_length_8abf5 1 0 0 [.ref SB] h (pS (some (.int 70)) h) := by
  refine CON.of (by decide) (by decide) ?_
  show X g _ _ _ _ _ 0 [(0, .ref SB)] [] _
  refine X_aload_n 0 rfl (dk KJ0_length_8abf5 0 rfl) ?_
  refine X_sval (tin6 74 rfl rfl) (dk KJ0_length_8abf5 1 rfl) ?_
  refine X_svl (dk KJ0_length_8abf5 2 rfl) ?_
  refine X_aload_n 0 rfl (dk KJ0_length_8abf5 3 rfl) ?_
  refine X_callVS (av := []) (st := [.int 70]) cbJ0_coder_7d493 rfl (tin2 200 rfl rfl) (tin2 201 rfl rfl) (tin2 202 rfl rfl) rfl (Nat.le_of_ble_eq_true rfl) (Nat.le_of_ble_eq_true rfl) (dk KJ0_length_8abf5 4 rfl) cJ_coder pS_st (fun v h' hp => ?_)
  obtain ⟨rfl, rfl⟩ := hp
  show X g _ _ _ _ _ _ _ [.int 0, .int 70] _
  refine X_ishr (dk KJ0_length_8abf5 5 rfl) ?_
  exact X_ireturn (ty := .int) (dk KJ0_length_8abf5 6 rfl) rfl rfl ⟨by decide, rfl⟩
theorem cJ_chk3 {i k : Int32} {z : Value} (hz : z = .null ∨ z = .ref (SB + 3)) (h1 : ¬ i < 0) (h2 : i < k) : CON g mJ3_checkIndex_8e157 0 0 0 [.int i, .int k, z] h (pS (some (.int i)) h) := by
  refine CON.of (by decide) (by rcases hz with rfl | rfl <;> simp [lg_sl, Value.category]) ?_
  have e : lv_args 0 [.int i, .int k, z] = [(0, .int i), (1, .int k), (2, z)] := rfl
  rw [e]
  refine X_iload_n 0 rfl (dk KJ3_checkIndex_8e157 0 rfl) ?_
  refine X_if_lt 9 (dk KJ3_checkIndex_8e157 1 rfl) (by decide) (fun hc => absurd hc h1) (fun hc => ?_)
  refine X_iload_n 0 rfl (dk KJ3_checkIndex_8e157 2 rfl) ?_
  refine X_iload_n 1 rfl (dk KJ3_checkIndex_8e157 3 rfl) ?_
  refine X_icmp_lt 16 (dk KJ3_checkIndex_8e157 4 rfl) (by decide) (fun hc => ?_) (fun hc => absurd h2 hc)
  refine X_iload_n 0 rfl (dk KJ3_checkIndex_8e157 10 rfl) ?_
  exact X_ireturn (ty := .int) (dk KJ3_checkIndex_8e157 11 rfl) rfl rfl ⟨rfl, rfl⟩
theorem cJ_chk2 {i k : Int32} (h1 : ¬ i < 0) (h2 : i < k) : CON g mJ0_checkIndex_df160 1 0 0 [.int i, .int k] h (pS none h) := by
  refine CON.of (by decide) (by simp [lg_sl, Value.category]) ?_
  show X g _ _ _ _ _ 0 [(0, .int i), (1, .int k)] [] _
  refine X_iload_n 0 rfl (dk KJ0_checkIndex_df160 0 rfl) ?_
  refine X_iload_n 1 rfl (dk KJ0_checkIndex_df160 1 rfl) ?_
  refine X_ssio (tin2 220 rfl rfl) (dk KJ0_checkIndex_df160 2 rfl) (fun z hz => ?_)
  refine X_callS (av := [.int i, .int k, z]) (st := []) cbJ3_checkIndex_8e157 (tin2 222 rfl rfl) (tin2 223 rfl rfl) rfl (Nat.le_of_ble_eq_true rfl) (Nat.le_of_ble_eq_true rfl) (dk KJ0_checkIndex_df160 3 rfl) (cJ_chk3 hz h1 h2) pS_st (fun v h' hp => ?_)
  obtain ⟨rfl, rfl⟩ := hp
  show X g _ _ _ _ _ _ _ [.int i] _
  refine X_pop (dk KJ0_checkIndex_df160 4 rfl) rfl ?_
  exact X_return (dk KJ0_checkIndex_df160 5 rfl) rfl ⟨rfl, rfl⟩
def chW (j : Nat) : Int32 := byW.getD j 0
theorem chW_c : ∀ j, j < 70 → ((chW j &&& 255).toUInt32 % 65536).toInt32 = chW j := by decide +kernel
theorem chW_n : ∀ j, j < 70 → narrow .char (.int (chW j)) = .int (chW j) := by decide +kernel
theorem cJ_char1 {i : Int32} (hi : vp_in i 70) : CON g mJ1_charAt_3b067 2 0 0 [.ref (SB + 1), .int i] h (pS (some (.int (chW i.toNatClampNeg))) h) := by
  have hlt : i.toNatClampNeg < 70 := Nat.not_le.mp fun q => hi (Or.inr q)
  have h1 : ¬ i < 0 := fun q => hi (Or.inl q)
  have h2 : i < 70 := by
    obtain ⟨j, hj, rfl⟩ := vp_in_of hi (by decide)
    exact nI_lt hj (by decide)
  refine CON.of (by decide) (by simp [lg_sl, Value.category]) ?_
  show X g _ _ _ _ _ 0 [(0, .ref (SB + 1)), (1, .int i)] [] _
  refine X_iload_n 1 rfl (dk KJ1_charAt_3b067 0 rfl) ?_
  refine X_aload_n 0 rfl (dk KJ1_charAt_3b067 1 rfl) ?_
  refine X_svl (dk KJ1_charAt_3b067 2 rfl) ?_
  refine X_callS (av := [.int i, .int 70]) (st := []) cbJ0_checkIndex_df160 (tin2 217 rfl rfl) (tin2 218 rfl rfl) rfl (Nat.le_of_ble_eq_true rfl) (Nat.le_of_ble_eq_true rfl) (dk KJ1_charAt_3b067 3 rfl) (cJ_chk2 h1 h2) pS_st (fun v h' hp => ?_)
  obtain ⟨rfl, rfl⟩ := hp
  show X g _ _ _ _ _ _ _ [] _
  refine X_aload_n 0 rfl (dk KJ1_charAt_3b067 4 rfl) ?_
  refine X_iload_n 1 rfl (dk KJ1_charAt_3b067 5 rfl) ?_
  refine X_svb hi (dk KJ1_charAt_3b067 6 rfl) ?_
  refine X_sipush (dk KJ1_charAt_3b067 7 rfl) 255 (by decide) ?_
  refine X_iand (dk KJ1_charAt_3b067 8 rfl) ?_
  refine X_i2c (chW i.toNatClampNeg) (chW_c _ hlt) (dk KJ1_charAt_3b067 9 rfl) ?_
  exact X_ireturn (ty := .char) (dk KJ1_charAt_3b067 10 rfl) rfl (chW_n _ hlt) ⟨rfl, rfl⟩
theorem cJ_char {i : Int32} (hi : vp_in i 70) : CON g mJ0_charAt_5068e 3 0 0 [.ref SB, .int i] h (pS (some (.int (chW i.toNatClampNeg))) h) := by
  have hlt : i.toNatClampNeg < 70 := Nat.not_le.mp fun q => hi (Or.inr q)
  refine CON.of (by decide) (by simp [lg_sl, Value.category]) ?_
  show X g _ _ _ _ _ 0 [(0, .ref SB), (1, .int i)] [] _
  refine X_aload_n 0 rfl (dk KJ0_charAt_5068e 0 rfl) ?_
  refine X_callVS (av := []) (st := []) cbJ0_isLatin1_aae02 rfl (tin2 210 rfl rfl) (tin2 211 rfl rfl) (tin2 212 rfl rfl) rfl (Nat.le_of_ble_eq_true rfl) (Nat.le_of_ble_eq_true rfl) (dk KJ0_charAt_5068e 1 rfl) cJ_latin pS_st (fun v h' hp => ?_)
  obtain ⟨rfl, rfl⟩ := hp
  show X g _ _ _ _ _ _ _ [.int 1] _
  refine X_if_eq 16 (dk KJ0_charAt_5068e 2 rfl) (by decide) (fun hc => absurd hc (by decide)) (fun hc => ?_)
  refine X_aload_n 0 rfl (dk KJ0_charAt_5068e 3 rfl) ?_
  refine X_sval (tin6 74 rfl rfl) (dk KJ0_charAt_5068e 4 rfl) ?_
  refine X_iload_n 1 rfl (dk KJ0_charAt_5068e 5 rfl) ?_
  refine X_callS (av := [.ref (SB + 1), .int i]) (st := []) cbJ1_charAt_3b067 (tin2 214 rfl rfl) (tin2 215 rfl rfl) rfl (Nat.le_of_ble_eq_true rfl) (Nat.le_of_ble_eq_true rfl) (dk KJ0_charAt_5068e 6 rfl) (cJ_char1 hi) pS_st (fun v h' hp => ?_)
  obtain ⟨rfl, rfl⟩ := hp
  show X g _ _ _ _ _ _ _ [.int (chW i.toNatClampNeg)] _
  exact X_ireturn (ty := .char) (dk KJ0_charAt_5068e 7 rfl) rfl (chW_n _ hlt) ⟨rfl, rfl⟩
theorem X_strlen (hdd : 2 ≤ d) (hsum : (st.map fun v => v.category).sum ≤ 8) (hw : Cond.methodLink M.1.cls index yJ0_length_8abf5 ∈ TBL) (hd : decode M.2.1 pc = .ok (.invokevirtual index, 3)) (k : X g M d nc ns post (pc + 3) L (.int 70 :: st) h) : X g M d nc ns post pc L (.ref SB :: st) h := by
  refine X_callVS (av := []) (M' := mJ0_length_8abf5) cbJ0_length_8abf5 rfl hw (tin2 197 rfl rfl) (tin2 198 rfl rfl) rfl (dc := 1) hdd hsum hd cJ_length pS_st (fun v h' hp => ?_)
  obtain ⟨rfl, rfl⟩ := hp
  exact k
theorem X_charAt {i : Int32} (hdd : 4 ≤ d) (hsum : (st.map fun v => v.category).sum ≤ 8) (hw : Cond.methodLink M.1.cls index yJ0_charAt_5068e ∈ TBL) (hi : vp_in i 70) (hd : decode M.2.1 pc = .ok (.invokevirtual index, 3)) (k : X g M d nc ns post (pc + 3) L (.int (chW i.toNatClampNeg) :: st) h) : X g M d nc ns post pc L (.int i :: .ref SB :: st) h := by
  refine X_callVS (av := [.int i]) (M' := mJ0_charAt_5068e) cbJ0_charAt_5068e rfl hw (tin2 207 rfl rfl) (tin2 208 rfl rfl) rfl (dc := 3) hdd hsum hd (cJ_char hi) pS_st (fun v h' hp => ?_)
  obtain ⟨rfl, rfl⟩ := hp
  exact k
theorem Y_charAt {α : Type} {P : α → Prop} {o : Option α} {σ : PS} {i : Int32} (hdd : 4 ≤ d) (hsum : (st.map fun v => v.category).sum ≤ 8) (hw : Cond.methodLink M.1.cls index yJ0_charAt_5068e ∈ TBL) (hd : decode M.2.1 pc = .ok (.invokevirtual index, 3)) (hh : hO (gd (inb i 70) o) P) (k : inb i 70 = true → hO o P → X g M d nc ns post (pc + 3) L (.int (chW i.toNatClampNeg) :: st) (HP σ)) : X g M d nc ns post pc L (.int i :: .ref SB :: st) (HP σ) := X_charAt hdd hsum hw (inb_in (hO_gd hh).1) hd (k (hO_gd hh).1 (hO_gd hh).2)
theorem jsl_67 : Cond.methodLink RX6 67 yJ0_length_8abf5 ∈ TBL := tin2 196 rfl rfl
theorem jsl_71 : Cond.methodLink RX6 71 yJ0_charAt_5068e ∈ TBL := tin2 206 rfl rfl
end XS
