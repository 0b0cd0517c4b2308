-- ===== end of PART A; then your names; then what follows =====
/-! THE CLAIM OUT OF ONE WALK OF THE LAW'S BODY. Your part is whole_start (and what it stands on); all else here is the same for every law, but numbers. -/
def R_law : String := "CaravanRoadLaw"
def lw_P (b : Addr) (xs : List Int32) (args : Array Value) (s : State) : Prop := args = #[.ref b] ∧ s.IntsAt b xs ∧ xs.length ≤ 3584 ∧ (Jvm.Cond.and given_1 narrow_1).before args s = true
def lw_Q (_ : Array Value) (s : State) (o : Outcome) (t : State) : Prop := o = .returned (some (.int 1)) ∧ Framed s o t [] 600000 7302250
def lw_Z (below : List Frame) (a : Array Value) (s : State) : State → Prop := fun t => ∃ o, t.status = .running ∧ Ended t below o ∧ lw_Q a s o t
/-- the law's own end, with 1 on the stack, nothing written that was there before, its room as the claim has it -/
theorem lw_ret {p : Program} {l : Launch} {e : Env} {s : State} {m : MethodId} {below : List Frame} {meth : Method} {c : Code} {b : Nat} (hx : p.tables.exec = Jvm.exec) (hb : c.code = code) (hr : meth.sig.returnType = ret) (hlocks : meth.locks = false) {pc : Nat} {H : Heap} {ls : Array Slot} (hdg : decode code pc = .ok (.ireturn, 1)) : W p l e room_1 s m #[Value.ref b] below meth c H [] 600000 7302250 (lw_Z below #[Value.ref b] s) (F0 m pc ls [.int 1]) := by
  intro T hT X
  obtain ⟨fs, hret, hrun, hended, hW, hframe⟩ := X.leave (v := some (.int 1)) (hlocks := hlocks) (fun h => by rw [hr] at h; cases h)
  have hmeth' : T.vm.method? m = some meth := X.method'
  refine ⟨T.setFrames fs, ?_, .returned (some (.int 1)), hrun, hended, rfl, ⟨_, rfl⟩, hW, hframe⟩
  jvm_step X.here [X.here.top, hx, hb, hdg, hmeth', hr, ret, narrow_b1]
  (try refine ⟨rfl, ?_⟩); (try refine ⟨rfl, ?_⟩)
  first | (intro acts; rw [hret _ acts rfl rfl rfl]) | rw [hret _ _ rfl rfl rfl]
  exact Steps.refl _
/-- what holds at the law's entry: the machine, the code, the tables' words (any of lw_tbl by 'hts w (by decide +kernel)'), the script of L ints xs at the cell b, what the Statement gives of the start (any of its parts by flat_of_before) -/
def lw_At (p : Program) (s : State) (m : MethodId) (meth : Method) (c : Code) (b L : Nat) (xs : Nat → Int32) : Prop :=
  p.tables.exec = Jvm.exec ∧ c.code = code ∧ meth.sig.returnType = ret ∧ c.maxLocals = 4 ∧ s.vm.findClass R_law = some m.cls ∧ (∀ w ∈ lw_tbl, w.before #[Value.ref b] s = true) ∧ va_X b L xs s s.heap ∧ b < s.heap.size ∧ meth.locks = false ∧ (Jvm.Cond.and given_1 narrow_1).before #[Value.ref b] s = true
theorem mem_TBL_tbl {w : Cond} (h : w ∈ TBL) : w ∈ lw_tbl := (List.mem_filter.mp h).1
set_option maxRecDepth 100000 in
theorem el_mem : ∀ j, j < 70 → Cond.eq (.elem (.field (.string RX6 65) "java/lang/String" "value" "[B") (.int (Int32.ofNat j))) (.int (byW.getD j 0)) ∈ flatC (Jvm.Cond.and given_1 narrow_1) := by decide +kernel
/-- what the whole comes to: the law's loop, from the heap behind the constructors, answers 1 -/
theorem whole_of (hpure : ∀ (g : GP), g.2.1 ≤ 3584 → hO (fL_law_18 g FU 0 σ0) (fun q => q.1 = 1)) {p : Program} {e : Env} {s : State} {m : MethodId} {below : List Frame} {meth : Method} {c : Code} (l : Launch) {b L : Nat} {xs : Nat → Int32} (hL : L ≤ 3584) (C0 : lw_At p s m meth c b L xs) : W p l e room_1 s m #[Value.ref b] below meth c s.heap [] 0 0 (lw_Z below #[Value.ref b] s) (entryFrame m ([Value.ref b] : List Value).toArray 4) := by
  obtain ⟨hx, hb, hr, hml, hown, hts, hX, hbl, hlocks, hgv⟩ := C0
  have hA : ∀ a : Nat, a < s.heap.size → ¬ (fun q : Nat => s.heap.size ≤ q) a := fun a h => Nat.not_le.mpr h
  have hs := flat_of_before _ hgv
  have htb : ∀ w ∈ TBL, w.before #[Value.ref b] s = true := fun w hw => hts w (mem_TBL_tbl hw)
  obtain ⟨adK, adV, hVS, hev⟩ := vk_Sof (args := #[Value.ref b]) (s := s) (N := 1) (tm := fun _ => .string RX6 65) (len := [70]) (byt := [byW]) (A := fun q : Nat => s.heap.size ≤ q) (by decide) (fun i _ => hs _ (by decide +kernel)) (fun i _ => hs _ (by decide +kernel)) (fun i _ => hs _ (by decide +kernel)) (fun i hi => by
      obtain rfl : i = 0 := by omega
      exact hs _ (by decide +kernel)) (fun i hi j hj => by
      obtain rfl : i = 0 := by omega
      exact hs _ (el_mem j hj)) (fun i j hi hj h => by omega) hA
  have hcs : va_Z "java/lang/String" "COMPACT_STRINGS" "Z" (.int 1) (fun q : Nat => s.heap.size ≤ q) s s.heap := va_Zof (hts _ (by decide +kernel)) (hts _ (by decide +kernel)) (va_eqi (hs _ (by decide +kernel))) hA
  have hsf : va_Zq "jdk/internal/util/Preconditions" "SIOOBE_FORMATTER" "Ljava/util/function/BiFunction;" (fun q : Nat => s.heap.size ≤ q) s s.heap := va_Zqof (hts _ (by decide +kernel)) (hts _ (by decide +kernel)) (hs _ (by decide +kernel)) hA
  obtain ⟨c0, iS0, hKn0⟩ := u_known (C := RX0) (T := TX0) (N := 5) (n := 5) htb CL0.2.2.1 (htb (.instantiable RX0 5) (by decide +kernel))
  obtain ⟨c1, iS1, hKn1⟩ := u_known (C := RX1) (T := TX1) (N := 14) (n := 14) htb CL1.2.2.1 (htb (.instantiable RX1 14) (by decide +kernel))
  obtain ⟨c2, iS2, hKn2⟩ := u_known (C := RX2) (T := TX2) (N := 16) (n := 16) htb CL2.2.2.1 (htb (.instantiable RX2 16) (by decide +kernel))
  obtain ⟨c3, iS3, hKn3⟩ := u_known (C := RX3) (T := TX3) (N := 12) (n := 12) htb CL3.2.2.1 (htb (.instantiable RX3 12) (by decide +kernel))
  obtain ⟨c4, iS4, hKn4⟩ := u_known (C := RX4) (T := TX4) (N := 9) (n := 9) htb CL4.2.2.1 (htb (.instantiable RX4 9) (by decide +kernel))
  obtain ⟨c5, iS5, hKn5⟩ := u_known (C := RX5) (T := TX5) (N := 9) (n := 9) htb CL5.2.2.1 (htb (.instantiable RX5 9) (by decide +kernel))
  obtain ⟨c6, iS6, hKn6⟩ := u_known (C := RX6) (T := TX6) (N := 5) (n := 5) htb CL6.2.2.1 (htb (.instantiable RX6 5) (by decide +kernel))
  obtain ⟨c7, iS7, hKn7⟩ := u_known (C := RX7) (T := TX7) (N := 2) (n := 2) htb CL7.2.2.1 (htb (.instantiable RX7 2) (by decide +kernel))
  obtain ⟨c8, iS8, hKn8⟩ := u_known (C := RX8) (T := TX8) (N := 7) (n := 7) htb CL8.2.2.1 (htb (.instantiable RX8 7) (by decide +kernel))
  obtain ⟨c9, iS9, hKn9⟩ := u_known (C := RX9) (T := TX9) (N := 80) (n := 80) htb CL9.2.2.1 (htb (.instantiable RX9 80) (by decide +kernel))
  obtain ⟨aI, kI, pI_, hI, hkI, hdI⟩ := Cond.arrayClass_spec (type := .int) (htb _ (tin1 130 rfl rfl))
  obtain ⟨aB, kB, pB_, hB, hkB, hdB⟩ := Cond.arrayClass_spec (type := .byte) (htb _ (tin1 39 rfl rfl))
  obtain ⟨aZ, kZ, pZ_, hZ, hkZ, hdZ⟩ := Cond.arrayClass_spec (type := .boolean) (htb _ (tin1 156 rfl rfl))
  obtain ⟨aJ, kJ, pJ_, hJ, hkJ, hdJ⟩ := Cond.arrayClass_spec (type := .long) (htb _ (tin5 99 rfl rfl))
  have hao : (Cond.arrayOver (.array .int)).before #[Value.ref b] s = true := hts _ (List.mem_append_right _ (List.mem_append_left _ (List.mem_of_getElem? (i := 47) rfl)))
  obtain ⟨pG, aG, kG, -, -, hkG, hdG, hG⟩ := arrayOverA_spec hao
  have hDC : ∃ (dC : Nat → ClassId) (dI : Nat → Nat → Nat), ∀ (k : Nat) (q : vw_C), clX[k]? = some q → u_Kn s q.1 q.2.1 q.2.2 (dC k) (dI k) := by
    refine ⟨fun k => if k = 0 then c0 else if k = 1 then c1 else if k = 2 then c2 else if k = 3 then c3 else if k = 4 then c4 else if k = 5 then c5 else if k = 6 then c6 else if k = 7 then c7 else if k = 8 then c8 else c9, fun k => if k = 0 then iS0 else if k = 1 then iS1 else if k = 2 then iS2 else if k = 3 then iS3 else if k = 4 then iS4 else if k = 5 then iS5 else if k = 6 then iS6 else if k = 7 then iS7 else if k = 8 then iS8 else iS9, ?_⟩
    intro k q hq
    match k, hq with
    | 0, hq => cases hq; exact hKn0
    | 1, hq => cases hq; exact hKn1
    | 2, hq => cases hq; exact hKn2
    | 3, hq => cases hq; exact hKn3
    | 4, hq => cases hq; exact hKn4
    | 5, hq => cases hq; exact hKn5
    | 6, hq => cases hq; exact hKn6
    | 7, hq => cases hq; exact hKn7
    | 8, hq => cases hq; exact hKn8
    | 9, hq => cases hq; exact hKn9
    | k + 10, hq => simp [clX] at hq
  obtain ⟨dC, dI, hKc⟩ := hDC
  have hK : va_K (dC, dI) clX (tyl (fun t => if t = 10 then aI else if t = 11 then aB else if t = 12 then aZ else if t = 13 then aJ else aG)) s := by
    refine ⟨hKc, fun k q hq => ?_⟩
    match k, hq with
    | 0, hq => cases hq; exact ⟨fun n z => ⟨fun k h => (by cases h), kI, hkI, pI_, hdI⟩, hI⟩
    | 1, hq => cases hq; exact ⟨fun n z => ⟨fun k h => (by cases h), kB, hkB, pB_, hdB⟩, hB⟩
    | 2, hq => cases hq; exact ⟨fun n z => ⟨fun k h => (by cases h), kZ, hkZ, pZ_, hdZ⟩, hZ⟩
    | 3, hq => cases hq; exact ⟨fun n z => ⟨fun k h => (by cases h), kJ, hkJ, pJ_, hdJ⟩, hJ⟩
    | 4, hq => cases hq; exact ⟨fun n z => ⟨fun k h => (by cases h), kG, hkG, pG, hdG⟩, hG⟩
    | k + 5, hq => simp [tyl] at hq
  have hZx : ∃ (z : Value) (za : Nat), (z = .null ∨ z = .ref (SB + 3)) ∧ va_Z "jdk/internal/util/Preconditions" "SIOOBE_FORMATTER" "Ljava/util/function/BiFunction;" (match z with | .ref _ => .ref za | v => v) (fun q : Nat => s.heap.size ≤ q) s s.heap := by
    rcases hsf with h | ⟨t, h⟩
    · exact ⟨.null, 0, Or.inl rfl, h⟩
    · exact ⟨.ref (SB + 3), t, Or.inr rfl, h⟩
  obtain ⟨z, za, hz, hzv⟩ := hZx
  generalize had : (fun k => if k = SB then adK 0 else if k = SB + 1 then adV 0 else if k = SB + 2 then b else za) = ad
  have a0 : ad SB = adK 0 := by rw [← had]; rfl
  have a1 : ad (SB + 1) = adV 0 := by rw [← had]; rfl
  have a2 : ad (SB + 2) = b := by rw [← had]; rfl
  have a3 : ad (SB + 3) = za := by rw [← had]; rfl
  have hE : EXT (l, L, xs) ad (fun q : Nat => s.heap.size ≤ q) s := by
    refine ⟨?_, ?_, hcs, ⟨z, hz, ?_⟩, ?_, ?_, ?_⟩
    · rw [a0]
      exact vk_R.of (A := #[Value.ref b]) (hts _ (by decide +kernel)) (hev 0 (by decide))
    · rw [a0, a1]
      refine ⟨fun i hi => ?_, fun i j hi hj _ => by omega⟩
      obtain rfl : i = 0 := by omega
      exact hVS.1 0 (by decide)
    · rcases hz with rfl | rfl
      · exact hzv
      · show va_Z _ _ _ (.ref (ad (SB + 3))) _ _ _
        rw [a3]
        exact hzv
    · rw [a2]
      exact hX
    · rw [a2]
      exact hbl
    · rw [a2]
      exact Nat.not_le.mpr hbl
  have hN : ∀ w ∈ NST, va_Nw w s := by
    intro w hw
    have h1 := hts w (List.mem_append_right _ (List.mem_filter.mp hw).1)
    have h2 := (List.mem_filter.mp hw).2
    cases w with
    | methodLinkNest x1 x2 x3 x4 => exact va_Nw.of rfl h1
    | arrayOver t =>
      cases t with
      | array t' =>
        obtain ⟨comp, c', k, h1, h2, h3, h4, h5⟩ := arrayOverA_spec h1
        unfold va_Nw
        simp only [Cond.before, Cond.holds, Cond.value, h1, Option.bind_some]
        generalize hX : Array.findIdx? _ s.vm.classes = Y
        have hY : Y = some c' := hX.symm.trans h2
        subst hY
        simp [h3, h4, h5]
      | _ => cases h2
    | _ => cases h2
  have hl := lv_entry ([.ref b]) (n := 4) (Nat.le_of_ble_eq_true rfl)
  rw [lg_entry_eq]
  generalize (lg_sl ([.ref b]) ++ List.replicate (4 - (lg_sl ([.ref b])).length) Slot.unset).toArray = ls at hl ⊢
  have hl : lv_has ls 4 [(0, .ref b)] := hl
  have hlx : lv_has ls mL_law.2.2.1 (([(0, .ref (SB + 2))] : List (Nat × Value)).map (trL ad)) := by
    show lv_has ls 4 [(0, .ref (ad (SB + 2)))]
    rw [a2]
    exact hl
  refine law_X (g := (l, L, xs)) (hpure (l, L, xs) hL) p e room_1 s m #[Value.ref b] below meth c (dC, dI) _ (fun q : Nat => s.heap.size ≤ q) (lw_Z below #[Value.ref b] s) ad s.heap [] 0 0 ls ⟨⟨hx, hb, hml, hown, htb⟩, hN, hK, fun h => absurd h (by decide), ⟨Nat.le_of_ble_eq_true rfl, Nat.le_of_ble_eq_true rfl⟩, fun q h => h, hE⟩ ⟨fun k q h => by simp [wl, HN] at h, ⟨fun i j p q h => by simp [wl, HN] at h, fun k q h => by simp [wl, HN] at h⟩, va_S.rf⟩ (Nat.le_of_ble_eq_true rfl) (Nat.le_of_ble_eq_true rfl) hlx ?_
  intro v h' ad' H' locs' cells' slots' ls' pc' ri hd hri hp hag hw hc hs2
  obtain ⟨x, σ, rfl, -, hx1⟩ := hp
  have hx1 : x = 1 := hx1
  subst hx1
  have hri2 : ri = .ireturn := by
    rcases hri with ⟨-, -, q⟩ | ⟨ty, y, -, q, -⟩ | ⟨y, -, -, q⟩
    · cases q
    · exact q
    · cases q
  subst hri2
  refine va_forget (fun q hq => hw.2.2.2.2 q hq) ?_
  refine W.widen (k := 600000) (n := 7302250) hc hs2 ?_
  exact lw_ret hx hb hr hlocks hd
