section XR
variable {g : GP} {M : Mth} {d nc ns : Nat} {post : Option Value → PH → Prop} {pc : Nat} {L : List (Nat × Value)} {st : List Value} {h : PH}
theorem X_iconst {n : Int} (hd : decode M.2.1 pc = .ok (.iconst n, 1)) (v : Int32) (hv : Int32.ofInt n = v) (k : X g M d nc ns post (pc + 1) L (.int v :: st) h) : X g M d nc ns post pc L st h := by
  intro p e R s m args below meth c D dA A Q ad H locs cells slots ls hM hW hc hs hl ret
  exact lv_iconst hM.1.1 hM.1.2.1 hd hv (k p e R s m args below meth c D dA A Q ad H locs cells slots ls hM hW hc hs hl ret)
theorem X_bipush {n : Int} (hd : decode M.2.1 pc = .ok (.bipush n, 2)) (v : Int32) (hv : (Int8.ofInt n).toInt32 = v) (k : X g M d nc ns post (pc + 2) L (.int v :: st) h) : X g M d nc ns post pc L st h := by
  intro p e R s m args below meth c D dA A Q ad H locs cells slots ls hM hW hc hs hl ret
  exact lv_bipush hM.1.1 hM.1.2.1 hd hv (k p e R s m args below meth c D dA A Q ad H locs cells slots ls hM hW hc hs hl ret)
theorem X_sipush {n : Int} (hd : decode M.2.1 pc = .ok (.sipush n, 3)) (v : Int32) (hv : (Int16.ofInt n).toInt32 = v) (k : X g M d nc ns post (pc + 3) L (.int v :: st) h) : X g M d nc ns post pc L st h := by
  intro p e R s m args below meth c D dA A Q ad H locs cells slots ls hM hW hc hs hl ret
  exact lv_sipush hM.1.1 hM.1.2.1 hd hv (k p e R s m args below meth c D dA A Q ad H locs cells slots ls hM hW hc hs hl ret)
theorem X_lconst {n : Fin 2} (hd : decode M.2.1 pc = .ok (.lconst n, 1)) (v : Int64) (hv : Int64.ofNat (n : Nat) = v) (k : X g M d nc ns post (pc + 1) L (.long v :: st) h) : X g M d nc ns post pc L st h := by
  intro p e R s m args below meth c D dA A Q ad H locs cells slots ls hM hW hc hs hl ret
  exact lv_lconst hM.1.1 hM.1.2.1 hd hv (k p e R s m args below meth c D dA A Q ad H locs cells slots ls hM hW hc hs hl ret)
theorem X_iload {i : Nat} {x : Int32} (kk : Nat) (hL : L[kk]? = some (i, .int x)) (hd : decode M.2.1 pc = .ok (.iload i, 2)) (k : X g M d nc ns post (pc + 2) L (.int x :: st) h) : X g M d nc ns post pc L st h := by
  intro p e R s m args below meth c D dA A Q ad H locs cells slots ls hM hW hc hs hl ret
  exact lv_iload hM.1.1 hM.1.2.1 hd (lv_at hl kk (by rw [List.getElem?_map, hL]; rfl)) (k p e R s m args below meth c D dA A Q ad H locs cells slots ls hM hW hc hs hl ret)
theorem X_iload_n {i : Fin 4} {x : Int32} (kk : Nat) (hL : L[kk]? = some (i.val, .int x)) (hd : decode M.2.1 pc = .ok (.iload_n i, 1)) (k : X g M d nc ns post (pc + 1) L (.int x :: st) h) : X g M d nc ns post pc L st h := by
  intro p e R s m args below meth c D dA A Q ad H locs cells slots ls hM hW hc hs hl ret
  exact lv_iload_n hM.1.1 hM.1.2.1 hd rfl (lv_at hl kk (by rw [List.getElem?_map, hL]; rfl)) (k p e R s m args below meth c D dA A Q ad H locs cells slots ls hM hW hc hs hl ret)
theorem X_lload {i : Nat} {x : Int64} (kk : Nat) (hL : L[kk]? = some (i, .long x)) (hd : decode M.2.1 pc = .ok (.lload i, 2)) (k : X g M d nc ns post (pc + 2) L (.long x :: st) h) : X g M d nc ns post pc L st h := by
  intro p e R s m args below meth c D dA A Q ad H locs cells slots ls hM hW hc hs hl ret
  exact lv_lload hM.1.1 hM.1.2.1 hd (lv_at hl kk (by rw [List.getElem?_map, hL]; rfl)) (k p e R s m args below meth c D dA A Q ad H locs cells slots ls hM hW hc hs hl ret)
theorem X_lload_n {i : Fin 4} {x : Int64} (kk : Nat) (hL : L[kk]? = some (i.val, .long x)) (hd : decode M.2.1 pc = .ok (.lload_n i, 1)) (k : X g M d nc ns post (pc + 1) L (.long x :: st) h) : X g M d nc ns post pc L st h := by
  intro p e R s m args below meth c D dA A Q ad H locs cells slots ls hM hW hc hs hl ret
  exact lv_lload_n hM.1.1 hM.1.2.1 hd rfl (lv_at hl kk (by rw [List.getElem?_map, hL]; rfl)) (k p e R s m args below meth c D dA A Q ad H locs cells slots ls hM hW hc hs hl ret)
theorem X_aload {i : Nat} {x : Nat} (kk : Nat) (hL : L[kk]? = some (i, .ref x)) (hd : decode M.2.1 pc = .ok (.aload i, 2)) (k : X g M d nc ns post (pc + 2) L (.ref x :: st) h) : X g M d nc ns post pc L st h := by
  intro p e R s m args below meth c D dA A Q ad H locs cells slots ls hM hW hc hs hl ret
  exact lv_aload hM.1.1 hM.1.2.1 hd (lv_at hl kk (by rw [List.getElem?_map, hL]; rfl)) (k p e R s m args below meth c D dA A Q ad H locs cells slots ls hM hW hc hs hl ret)
theorem X_aload_n {i : Fin 4} {x : Nat} (kk : Nat) (hL : L[kk]? = some (i.val, .ref x)) (hd : decode M.2.1 pc = .ok (.aload_n i, 1)) (k : X g M d nc ns post (pc + 1) L (.ref x :: st) h) : X g M d nc ns post pc L st h := by
  intro p e R s m args below meth c D dA A Q ad H locs cells slots ls hM hW hc hs hl ret
  exact lv_aload_n hM.1.1 hM.1.2.1 hd rfl (lv_at hl kk (by rw [List.getElem?_map, hL]; rfl)) (k p e R s m args below meth c D dA A Q ad H locs cells slots ls hM hW hc hs hl ret)
theorem tr_cat (ad : Nat → Nat) (v : Value) : (tr ad v).category = v.category := by
  cases v <;> rfl
theorem trL_f1 (ad : Nat → Nat) (i : Nat) (l : List (Nat × Value)) : (l.map (trL ad)).filter (fun q => !(q.1 == i) && !(q.1 + 1 == i && q.2.category == 2)) = (l.filter (fun q => !(q.1 == i) && !(q.1 + 1 == i && q.2.category == 2))).map (trL ad) := by
  rw [List.filter_map]
  congr 1
  apply List.filter_congr
  intro q _
  simp [trL, tr_cat]
theorem trL_f2 (ad : Nat → Nat) (i : Nat) (l : List (Nat × Value)) : (l.map (trL ad)).filter (fun q => !(q.1 == i) && (!(q.1 == i + 1) && !(q.1 + 1 == i && q.2.category == 2))) = (l.filter (fun q => !(q.1 == i) && (!(q.1 == i + 1) && !(q.1 + 1 == i && q.2.category == 2)))).map (trL ad) := by
  rw [List.filter_map]
  congr 1
  apply List.filter_congr
  intro q _
  simp [trL, tr_cat]
theorem X_istore {i : Nat} {x : Int32} (L' : List (Nat × Value)) (hd : decode M.2.1 pc = .ok (.istore i, 2)) (hi : i < M.2.2.1) (hL : (i, Value.int x) :: L.filter (fun q => !(q.1 == i) && !(q.1 + 1 == i && q.2.category == 2)) = L') (k : X g M d nc ns post (pc + 2) L' st h) : X g M d nc ns post pc L (.int x :: st) h := by
  intro p e R s m args below meth c D dA A Q ad H locs cells slots ls hM hW hc hs hl ret
  subst hL
  exact lv_istore hM.1.1 hM.1.2.1 hd hl hi (by rw [trL_f1]; rfl) (fun ls hl => k p e R s m args below meth c D dA A Q ad H locs cells slots ls hM hW hc hs hl ret)
theorem X_istore_n {i : Fin 4} {x : Int32} (L' : List (Nat × Value)) (hd : decode M.2.1 pc = .ok (.istore_n i, 1)) (hi : i.val < M.2.2.1) (hL : (i.val, Value.int x) :: L.filter (fun q => !(q.1 == i.val) && !(q.1 + 1 == i.val && q.2.category == 2)) = L') (k : X g M d nc ns post (pc + 1) L' st h) : X g M d nc ns post pc L (.int x :: st) h := by
  intro p e R s m args below meth c D dA A Q ad H locs cells slots ls hM hW hc hs hl ret
  subst hL
  exact lv_istore_n hM.1.1 hM.1.2.1 hd rfl hl hi (by rw [trL_f1]; rfl) (fun ls hl => k p e R s m args below meth c D dA A Q ad H locs cells slots ls hM hW hc hs hl ret)
theorem X_lstore {i : Nat} {x : Int64} (L' : List (Nat × Value)) (hd : decode M.2.1 pc = .ok (.lstore i, 2)) (hi : i + 1 < M.2.2.1) (hL : (i, Value.long x) :: L.filter (fun q => !(q.1 == i) && (!(q.1 == i + 1) && !(q.1 + 1 == i && q.2.category == 2))) = L') (k : X g M d nc ns post (pc + 2) L' st h) : X g M d nc ns post pc L (.long x :: st) h := by
  intro p e R s m args below meth c D dA A Q ad H locs cells slots ls hM hW hc hs hl ret
  subst hL
  exact lv_lstore hM.1.1 hM.1.2.1 hd hl hi (by rw [trL_f2]; rfl) (fun ls hl => k p e R s m args below meth c D dA A Q ad H locs cells slots ls hM hW hc hs hl ret)
theorem X_lstore_n {i : Fin 4} {x : Int64} (L' : List (Nat × Value)) (hd : decode M.2.1 pc = .ok (.lstore_n i, 1)) (hi : i.val + 1 < M.2.2.1) (hL : (i.val, Value.long x) :: L.filter (fun q => !(q.1 == i.val) && (!(q.1 == i.val + 1) && !(q.1 + 1 == i.val && q.2.category == 2))) = L') (k : X g M d nc ns post (pc + 1) L' st h) : X g M d nc ns post pc L (.long x :: st) h := by
  intro p e R s m args below meth c D dA A Q ad H locs cells slots ls hM hW hc hs hl ret
  subst hL
  exact lv_lstore_n hM.1.1 hM.1.2.1 hd rfl hl hi (by rw [trL_f2]; rfl) (fun ls hl => k p e R s m args below meth c D dA A Q ad H locs cells slots ls hM hW hc hs hl ret)
theorem X_astore {i : Nat} {x : Nat} (L' : List (Nat × Value)) (hd : decode M.2.1 pc = .ok (.astore i, 2)) (hi : i < M.2.2.1) (hL : (i, Value.ref x) :: L.filter (fun q => !(q.1 == i) && !(q.1 + 1 == i && q.2.category == 2)) = L') (k : X g M d nc ns post (pc + 2) L' st h) : X g M d nc ns post pc L (.ref x :: st) h := by
  intro p e R s m args below meth c D dA A Q ad H locs cells slots ls hM hW hc hs hl ret
  subst hL
  exact lv_astore hM.1.1 hM.1.2.1 hd hl hi (by rw [trL_f1]; rfl) (fun ls hl => k p e R s m args below meth c D dA A Q ad H locs cells slots ls hM hW hc hs hl ret)
theorem X_astore_n {i : Fin 4} {x : Nat} (L' : List (Nat × Value)) (hd : decode M.2.1 pc = .ok (.astore_n i, 1)) (hi : i.val < M.2.2.1) (hL : (i.val, Value.ref x) :: L.filter (fun q => !(q.1 == i.val) && !(q.1 + 1 == i.val && q.2.category == 2)) = L') (k : X g M d nc ns post (pc + 1) L' st h) : X g M d nc ns post pc L (.ref x :: st) h := by
  intro p e R s m args below meth c D dA A Q ad H locs cells slots ls hM hW hc hs hl ret
  subst hL
  exact lv_astore_n hM.1.1 hM.1.2.1 hd rfl hl hi (by rw [trL_f1]; rfl) (fun ls hl => k p e R s m args below meth c D dA A Q ad H locs cells slots ls hM hW hc hs hl ret)
theorem X_iinc {i : Nat} {n : Int} {x : Int32} (kk : Nat) (v : Int32) (L' : List (Nat × Value)) (hd : decode M.2.1 pc = .ok (.iinc i n, 3)) (hk : L[kk]? = some (i, .int x)) (hv : Int32.ofInt n = v) (hi : i < M.2.2.1) (hL : (i, Value.int (x + v)) :: L.filter (fun q => !(q.1 == i) && !(q.1 + 1 == i && q.2.category == 2)) = L') (k : X g M d nc ns post (pc + 3) L' st h) : X g M d nc ns post pc L st h := by
  intro p e R s m args below meth c D dA A Q ad H locs cells slots ls hM hW hc hs hl ret
  subst hL
  subst hv
  exact lv_iinc (k := kk) (x := x) hM.1.1 hM.1.2.1 hd hl (by rw [List.getElem?_map, hk]; rfl) rfl hi (by rw [trL_f1]; rfl) (fun ls hl => k p e R s m args below meth c D dA A Q ad H locs cells slots ls hM hW hc hs hl ret)
theorem X_sub (L' : List (Nat × Value)) (ks : List Nat) (hL : lv_pick L ks = L') (k : X g M d nc ns post pc L' st h) : X g M d nc ns post pc L st h := by
  intro p e R s m args below meth c D dA A Q ad H locs cells slots ls hM hW hc hs hl ret
  have hl' : lv_has ls M.2.2.1 (L'.map (trL ad)) := lv_sub hl ks (by
    rw [← hL]
    unfold lv_pick
    rw [List.map_filterMap]
    apply congrFun
    apply congrArg
    funext k
    rw [List.getElem?_map])
  exact k p e R s m args below meth c D dA A Q ad H locs cells slots ls hM hW hc hs hl' ret
theorem X_iadd {x y : Int32} (hd : decode M.2.1 pc = .ok (.iadd, 1)) (k : X g M d nc ns post (pc + 1) L (.int (x + y) :: st) h) : X g M d nc ns post pc L (.int y :: .int x :: st) h := by
  intro p e R s m args below meth c D dA A Q ad H locs cells slots ls hM hW hc hs hl ret
  exact lv_iadd hM.1.1 hM.1.2.1 hd (k p e R s m args below meth c D dA A Q ad H locs cells slots ls hM hW hc hs hl ret)
theorem X_isub {x y : Int32} (hd : decode M.2.1 pc = .ok (.isub, 1)) (k : X g M d nc ns post (pc + 1) L (.int (x - y) :: st) h) : X g M d nc ns post pc L (.int y :: .int x :: st) h := by
  intro p e R s m args below meth c D dA A Q ad H locs cells slots ls hM hW hc hs hl ret
  exact lv_isub hM.1.1 hM.1.2.1 hd (k p e R s m args below meth c D dA A Q ad H locs cells slots ls hM hW hc hs hl ret)
theorem X_imul {x y : Int32} (hd : decode M.2.1 pc = .ok (.imul, 1)) (k : X g M d nc ns post (pc + 1) L (.int (x * y) :: st) h) : X g M d nc ns post pc L (.int y :: .int x :: st) h := by
  intro p e R s m args below meth c D dA A Q ad H locs cells slots ls hM hW hc hs hl ret
  exact lv_imul hM.1.1 hM.1.2.1 hd (k p e R s m args below meth c D dA A Q ad H locs cells slots ls hM hW hc hs hl ret)
theorem X_iand {x y : Int32} (hd : decode M.2.1 pc = .ok (.iand, 1)) (k : X g M d nc ns post (pc + 1) L (.int (x &&& y) :: st) h) : X g M d nc ns post pc L (.int y :: .int x :: st) h := by
  intro p e R s m args below meth c D dA A Q ad H locs cells slots ls hM hW hc hs hl ret
  exact lv_iand hM.1.1 hM.1.2.1 hd (k p e R s m args below meth c D dA A Q ad H locs cells slots ls hM hW hc hs hl ret)
theorem X_ior {x y : Int32} (hd : decode M.2.1 pc = .ok (.ior, 1)) (k : X g M d nc ns post (pc + 1) L (.int (x ||| y) :: st) h) : X g M d nc ns post pc L (.int y :: .int x :: st) h := by
  intro p e R s m args below meth c D dA A Q ad H locs cells slots ls hM hW hc hs hl ret
  exact lv_ior hM.1.1 hM.1.2.1 hd (k p e R s m args below meth c D dA A Q ad H locs cells slots ls hM hW hc hs hl ret)
theorem X_ishl {x y : Int32} (hd : decode M.2.1 pc = .ok (.ishl, 1)) (k : X g M d nc ns post (pc + 1) L (.int (x <<< (y &&& 31)) :: st) h) : X g M d nc ns post pc L (.int y :: .int x :: st) h := by
  intro p e R s m args below meth c D dA A Q ad H locs cells slots ls hM hW hc hs hl ret
  exact lv_ishl hM.1.1 hM.1.2.1 hd (k p e R s m args below meth c D dA A Q ad H locs cells slots ls hM hW hc hs hl ret)
theorem X_ishr {x y : Int32} (hd : decode M.2.1 pc = .ok (.ishr, 1)) (k : X g M d nc ns post (pc + 1) L (.int (x >>> (y &&& 31)) :: st) h) : X g M d nc ns post pc L (.int y :: .int x :: st) h := by
  intro p e R s m args below meth c D dA A Q ad H locs cells slots ls hM hW hc hs hl ret
  exact lv_ishr hM.1.1 hM.1.2.1 hd (k p e R s m args below meth c D dA A Q ad H locs cells slots ls hM hW hc hs hl ret)
theorem X_iushr {x y : Int32} (hd : decode M.2.1 pc = .ok (.iushr, 1)) (k : X g M d nc ns post (pc + 1) L (.int ((x.toUInt32 >>> (y.toUInt32 &&& Int32.toUInt32 31)).toInt32) :: st) h) : X g M d nc ns post pc L (.int y :: .int x :: st) h := by
  intro p e R s m args below meth c D dA A Q ad H locs cells slots ls hM hW hc hs hl ret
  exact lv_iushr hM.1.1 hM.1.2.1 hd rfl (k p e R s m args below meth c D dA A Q ad H locs cells slots ls hM hW hc hs hl ret)
theorem X_ladd {x y : Int64} (hd : decode M.2.1 pc = .ok (.ladd, 1)) (k : X g M d nc ns post (pc + 1) L (.long (x + y) :: st) h) : X g M d nc ns post pc L (.long y :: .long x :: st) h := by
  intro p e R s m args below meth c D dA A Q ad H locs cells slots ls hM hW hc hs hl ret
  exact lv_ladd hM.1.1 hM.1.2.1 hd (k p e R s m args below meth c D dA A Q ad H locs cells slots ls hM hW hc hs hl ret)
theorem X_lmul {x y : Int64} (hd : decode M.2.1 pc = .ok (.lmul, 1)) (k : X g M d nc ns post (pc + 1) L (.long (x * y) :: st) h) : X g M d nc ns post pc L (.long y :: .long x :: st) h := by
  intro p e R s m args below meth c D dA A Q ad H locs cells slots ls hM hW hc hs hl ret
  exact lv_lmul hM.1.1 hM.1.2.1 hd (k p e R s m args below meth c D dA A Q ad H locs cells slots ls hM hW hc hs hl ret)
theorem X_lcmp {x y : Int64} (hd : decode M.2.1 pc = .ok (.lcmp, 1)) (k : X g M d nc ns post (pc + 1) L (.int (lg_cmp x y) :: st) h) : X g M d nc ns post pc L (.long y :: .long x :: st) h := by
  intro p e R s m args below meth c D dA A Q ad H locs cells slots ls hM hW hc hs hl ret
  exact W.lcmp hM.1.1 hM.1.2.1 hd (k p e R s m args below meth c D dA A Q ad H locs cells slots ls hM hW hc hs hl ret)
theorem X_ineg {x : Int32} (hd : decode M.2.1 pc = .ok (.ineg, 1)) (k : X g M d nc ns post (pc + 1) L (.int (-x) :: st) h) : X g M d nc ns post pc L (.int x :: st) h := by
  intro p e R s m args below meth c D dA A Q ad H locs cells slots ls hM hW hc hs hl ret
  exact lv_ineg hM.1.1 hM.1.2.1 hd (k p e R s m args below meth c D dA A Q ad H locs cells slots ls hM hW hc hs hl ret)
theorem X_i2b {x : Int32} (hd : decode M.2.1 pc = .ok (.i2b, 1)) (k : X g M d nc ns post (pc + 1) L (.int x.toInt8.toInt32 :: st) h) : X g M d nc ns post pc L (.int x :: st) h := by
  intro p e R s m args below meth c D dA A Q ad H locs cells slots ls hM hW hc hs hl ret
  exact lv_i2b hM.1.1 hM.1.2.1 hd rfl (k p e R s m args below meth c D dA A Q ad H locs cells slots ls hM hW hc hs hl ret)
theorem X_i2l {x : Int32} (hd : decode M.2.1 pc = .ok (.i2l, 1)) (k : X g M d nc ns post (pc + 1) L (.long x.toInt64 :: st) h) : X g M d nc ns post pc L (.int x :: st) h := by
  intro p e R s m args below meth c D dA A Q ad H locs cells slots ls hM hW hc hs hl ret
  exact lv_i2l hM.1.1 hM.1.2.1 hd rfl (k p e R s m args below meth c D dA A Q ad H locs cells slots ls hM hW hc hs hl ret)
theorem X_dup {va : Value} (hd : decode M.2.1 pc = .ok (.dup, 1)) (hva : va.category = 1) (k : X g M d nc ns post (pc + 1) L (va :: va :: st) h) : X g M d nc ns post pc L (va :: st) h := by
  intro p e R s m args below meth c D dA A Q ad H locs cells slots ls hM hW hc hs hl ret
  exact lv_dup hM.1.1 hM.1.2.1 hd (by rw [tr_cat]; exact hva) (k p e R s m args below meth c D dA A Q ad H locs cells slots ls hM hW hc hs hl ret)
theorem X_dup2 {va vb : Value} (hd : decode M.2.1 pc = .ok (.dup2, 1)) (hva : va.category = 1) (hvb : vb.category = 1) (k : X g M d nc ns post (pc + 1) L (va :: vb :: va :: vb :: st) h) : X g M d nc ns post pc L (va :: vb :: st) h := by
  intro p e R s m args below meth c D dA A Q ad H locs cells slots ls hM hW hc hs hl ret
  exact lv_dup2_11 hM.1.1 hM.1.2.1 hd (by rw [tr_cat]; exact hva) (by rw [tr_cat]; exact hvb) (k p e R s m args below meth c D dA A Q ad H locs cells slots ls hM hW hc hs hl ret)
theorem X_goto {off : Int} (tgt : Nat) (hd : decode M.2.1 pc = .ok (.goto off, 3)) (ht : (pc : Int) + off = (tgt : Int)) (k : X g M d nc ns post tgt L st h) : X g M d nc ns post pc L st h := by
  intro p e R s m args below meth c D dA A Q ad H locs cells slots ls hM hW hc hs hl ret
  exact lv_goto hM.1.1 hM.1.2.1 hd ht (k p e R s m args below meth c D dA A Q ad H locs cells slots ls hM hW hc hs hl ret)
theorem X_if_eq {x : Int32} {off : Int} (tgt : Nat) (hd : decode M.2.1 pc = .ok (.ifCond .eq off, 3)) (ht : (pc : Int) + off = (tgt : Int)) (kt : x = 0 → X g M d nc ns post tgt L st h) (kf : ¬ (x = 0) → X g M d nc ns post (pc + 3) L st h) : X g M d nc ns post pc L (.int x :: st) h := by
  intro p e R s m args below meth c D dA A Q ad H locs cells slots ls hM hW hc hs hl ret
  exact lv_if_eq hM.1.1 hM.1.2.1 hd ht (fun q => kt q p e R s m args below meth c D dA A Q ad H locs cells slots ls hM hW hc hs hl ret) (fun q => kf q p e R s m args below meth c D dA A Q ad H locs cells slots ls hM hW hc hs hl ret)
theorem X_icmp_eq {x y : Int32} {off : Int} (tgt : Nat) (hd : decode M.2.1 pc = .ok (.if_icmp .eq off, 3)) (ht : (pc : Int) + off = (tgt : Int)) (kt : x = y → X g M d nc ns post tgt L st h) (kf : ¬ (x = y) → X g M d nc ns post (pc + 3) L st h) : X g M d nc ns post pc L (.int y :: .int x :: st) h := by
  intro p e R s m args below meth c D dA A Q ad H locs cells slots ls hM hW hc hs hl ret
  exact lv_icmp_eq hM.1.1 hM.1.2.1 hd ht (fun q => kt q p e R s m args below meth c D dA A Q ad H locs cells slots ls hM hW hc hs hl ret) (fun q => kf q p e R s m args below meth c D dA A Q ad H locs cells slots ls hM hW hc hs hl ret)
theorem X_if_ne {x : Int32} {off : Int} (tgt : Nat) (hd : decode M.2.1 pc = .ok (.ifCond .ne off, 3)) (ht : (pc : Int) + off = (tgt : Int)) (kt : ¬ x = 0 → X g M d nc ns post tgt L st h) (kf : x = 0 → X g M d nc ns post (pc + 3) L st h) : X g M d nc ns post pc L (.int x :: st) h := by
  intro p e R s m args below meth c D dA A Q ad H locs cells slots ls hM hW hc hs hl ret
  exact lv_if_ne hM.1.1 hM.1.2.1 hd ht (fun q => kt q p e R s m args below meth c D dA A Q ad H locs cells slots ls hM hW hc hs hl ret) (fun q => kf q p e R s m args below meth c D dA A Q ad H locs cells slots ls hM hW hc hs hl ret)
theorem X_icmp_ne {x y : Int32} {off : Int} (tgt : Nat) (hd : decode M.2.1 pc = .ok (.if_icmp .ne off, 3)) (ht : (pc : Int) + off = (tgt : Int)) (kt : ¬ x = y → X g M d nc ns post tgt L st h) (kf : x = y → X g M d nc ns post (pc + 3) L st h) : X g M d nc ns post pc L (.int y :: .int x :: st) h := by
  intro p e R s m args below meth c D dA A Q ad H locs cells slots ls hM hW hc hs hl ret
  exact lv_icmp_ne hM.1.1 hM.1.2.1 hd ht (fun q => kt q p e R s m args below meth c D dA A Q ad H locs cells slots ls hM hW hc hs hl ret) (fun q => kf q p e R s m args below meth c D dA A Q ad H locs cells slots ls hM hW hc hs hl ret)
theorem X_if_lt {x : Int32} {off : Int} (tgt : Nat) (hd : decode M.2.1 pc = .ok (.ifCond .lt off, 3)) (ht : (pc : Int) + off = (tgt : Int)) (kt : x < 0 → X g M d nc ns post tgt L st h) (kf : ¬ (x < 0) → X g M d nc ns post (pc + 3) L st h) : X g M d nc ns post pc L (.int x :: st) h := by
  intro p e R s m args below meth c D dA A Q ad H locs cells slots ls hM hW hc hs hl ret
  exact lv_if_lt hM.1.1 hM.1.2.1 hd ht (fun q => kt q p e R s m args below meth c D dA A Q ad H locs cells slots ls hM hW hc hs hl ret) (fun q => kf q p e R s m args below meth c D dA A Q ad H locs cells slots ls hM hW hc hs hl ret)
theorem X_icmp_lt {x y : Int32} {off : Int} (tgt : Nat) (hd : decode M.2.1 pc = .ok (.if_icmp .lt off, 3)) (ht : (pc : Int) + off = (tgt : Int)) (kt : x < y → X g M d nc ns post tgt L st h) (kf : ¬ (x < y) → X g M d nc ns post (pc + 3) L st h) : X g M d nc ns post pc L (.int y :: .int x :: st) h := by
  intro p e R s m args below meth c D dA A Q ad H locs cells slots ls hM hW hc hs hl ret
  exact lv_icmp_lt hM.1.1 hM.1.2.1 hd ht (fun q => kt q p e R s m args below meth c D dA A Q ad H locs cells slots ls hM hW hc hs hl ret) (fun q => kf q p e R s m args below meth c D dA A Q ad H locs cells slots ls hM hW hc hs hl ret)
theorem X_if_ge {x : Int32} {off : Int} (tgt : Nat) (hd : decode M.2.1 pc = .ok (.ifCond .ge off, 3)) (ht : (pc : Int) + off = (tgt : Int)) (kt : 0 ≤ x → X g M d nc ns post tgt L st h) (kf : ¬ (0 ≤ x) → X g M d nc ns post (pc + 3) L st h) : X g M d nc ns post pc L (.int x :: st) h := by
  intro p e R s m args below meth c D dA A Q ad H locs cells slots ls hM hW hc hs hl ret
  exact lv_if_ge hM.1.1 hM.1.2.1 hd ht (fun q => kt q p e R s m args below meth c D dA A Q ad H locs cells slots ls hM hW hc hs hl ret) (fun q => kf q p e R s m args below meth c D dA A Q ad H locs cells slots ls hM hW hc hs hl ret)
theorem X_icmp_ge {x y : Int32} {off : Int} (tgt : Nat) (hd : decode M.2.1 pc = .ok (.if_icmp .ge off, 3)) (ht : (pc : Int) + off = (tgt : Int)) (kt : y ≤ x → X g M d nc ns post tgt L st h) (kf : ¬ (y ≤ x) → X g M d nc ns post (pc + 3) L st h) : X g M d nc ns post pc L (.int y :: .int x :: st) h := by
  intro p e R s m args below meth c D dA A Q ad H locs cells slots ls hM hW hc hs hl ret
  exact lv_icmp_ge hM.1.1 hM.1.2.1 hd ht (fun q => kt q p e R s m args below meth c D dA A Q ad H locs cells slots ls hM hW hc hs hl ret) (fun q => kf q p e R s m args below meth c D dA A Q ad H locs cells slots ls hM hW hc hs hl ret)
theorem X_if_gt {x : Int32} {off : Int} (tgt : Nat) (hd : decode M.2.1 pc = .ok (.ifCond .gt off, 3)) (ht : (pc : Int) + off = (tgt : Int)) (kt : 0 < x → X g M d nc ns post tgt L st h) (kf : ¬ (0 < x) → X g M d nc ns post (pc + 3) L st h) : X g M d nc ns post pc L (.int x :: st) h := by
  intro p e R s m args below meth c D dA A Q ad H locs cells slots ls hM hW hc hs hl ret
  exact lv_if_gt hM.1.1 hM.1.2.1 hd ht (fun q => kt q p e R s m args below meth c D dA A Q ad H locs cells slots ls hM hW hc hs hl ret) (fun q => kf q p e R s m args below meth c D dA A Q ad H locs cells slots ls hM hW hc hs hl ret)
theorem X_icmp_gt {x y : Int32} {off : Int} (tgt : Nat) (hd : decode M.2.1 pc = .ok (.if_icmp .gt off, 3)) (ht : (pc : Int) + off = (tgt : Int)) (kt : y < x → X g M d nc ns post tgt L st h) (kf : ¬ (y < x) → X g M d nc ns post (pc + 3) L st h) : X g M d nc ns post pc L (.int y :: .int x :: st) h := by
  intro p e R s m args below meth c D dA A Q ad H locs cells slots ls hM hW hc hs hl ret
  exact lv_icmp_gt hM.1.1 hM.1.2.1 hd ht (fun q => kt q p e R s m args below meth c D dA A Q ad H locs cells slots ls hM hW hc hs hl ret) (fun q => kf q p e R s m args below meth c D dA A Q ad H locs cells slots ls hM hW hc hs hl ret)
theorem X_if_le {x : Int32} {off : Int} (tgt : Nat) (hd : decode M.2.1 pc = .ok (.ifCond .le off, 3)) (ht : (pc : Int) + off = (tgt : Int)) (kt : x ≤ 0 → X g M d nc ns post tgt L st h) (kf : ¬ (x ≤ 0) → X g M d nc ns post (pc + 3) L st h) : X g M d nc ns post pc L (.int x :: st) h := by
  intro p e R s m args below meth c D dA A Q ad H locs cells slots ls hM hW hc hs hl ret
  exact lv_if_le hM.1.1 hM.1.2.1 hd ht (fun q => kt q p e R s m args below meth c D dA A Q ad H locs cells slots ls hM hW hc hs hl ret) (fun q => kf q p e R s m args below meth c D dA A Q ad H locs cells slots ls hM hW hc hs hl ret)
theorem X_icmp_le {x y : Int32} {off : Int} (tgt : Nat) (hd : decode M.2.1 pc = .ok (.if_icmp .le off, 3)) (ht : (pc : Int) + off = (tgt : Int)) (kt : x ≤ y → X g M d nc ns post tgt L st h) (kf : ¬ (x ≤ y) → X g M d nc ns post (pc + 3) L st h) : X g M d nc ns post pc L (.int y :: .int x :: st) h := by
  intro p e R s m args below meth c D dA A Q ad H locs cells slots ls hM hW hc hs hl ret
  exact lv_icmp_le hM.1.1 hM.1.2.1 hd ht (fun q => kt q p e R s m args below meth c D dA A Q ad H locs cells slots ls hM hW hc hs hl ret) (fun q => kf q p e R s m args below meth c D dA A Q ad H locs cells slots ls hM hW hc hs hl ret)
theorem X_tableOut {dflt lo hi : Int} {offs : Array Int} {len : Nat} {x : Int32} (tgt : Nat) (hd : decode M.2.1 pc = .ok (.tableswitch dflt lo hi offs, len)) (hx : x.toInt < lo ∨ hi < x.toInt) (ht : (pc : Int) + dflt = (tgt : Int)) (k : X g M d nc ns post tgt L st h) : X g M d nc ns post pc L (.int x :: st) h := by
  intro p e R s m args below meth c D dA A Q ad H locs cells slots ls hM hW hc hs hl ret
  exact lv_tableOut hM.1.1 hM.1.2.1 hd hx ht (k p e R s m args below meth c D dA A Q ad H locs cells slots ls hM hW hc hs hl ret)
theorem X_tableIn {dflt lo hi off : Int} {offs : Array Int} {len : Nat} {x : Int32} (tgt : Nat) (hd : decode M.2.1 pc = .ok (.tableswitch dflt lo hi offs, len)) (h1 : ¬ x.toInt < lo) (h2 : ¬ hi < x.toInt) (ho : offs[(x.toInt - lo).toNat]? = some off) (ht : (pc : Int) + off = (tgt : Int)) (k : X g M d nc ns post tgt L st h) : X g M d nc ns post pc L (.int x :: st) h := by
  intro p e R s m args below meth c D dA A Q ad H locs cells slots ls hM hW hc hs hl ret
  exact lv_tableIn hM.1.1 hM.1.2.1 hd h1 h2 ho ht (k p e R s m args below meth c D dA A Q ad H locs cells slots ls hM hW hc hs hl ret)
theorem X_lookup {dflt off : Int} {ps : Array (Int × Int)} {len : Nat} {x : Int32} (tgt : Nat) (hd : decode M.2.1 pc = .ok (.lookupswitch dflt ps, len)) (hp : (ps.toList.zip (ps.toList.drop 1)).all (fun (a, next) => a.1 < next.1) = true) (ho : Op.lookupswitch.offset ps.toList dflt x.toInt = off) (ht : (pc : Int) + off = (tgt : Int)) (k : X g M d nc ns post tgt L st h) : X g M d nc ns post pc L (.int x :: st) h := by
  intro p e R s m args below meth c D dA A Q ad H locs cells slots ls hM hW hc hs hl ret
  exact lv_lookup hM.1.1 hM.1.2.1 hd hp ho ht (k p e R s m args below meth c D dA A Q ad H locs cells slots ls hM hW hc hs hl ret)
theorem X_ldc {index : Nat} (v : Int32) (hw : Cond.constant M.1.cls index v ∈ TBL) (hd : decode M.2.1 pc = .ok (.ldc index, 2)) (k : X g M d nc ns post (pc + 2) L (.int v :: st) h) : X g M d nc ns post pc L st h := by
  intro p e R s m args below meth c D dA A Q ad H locs cells slots ls hM hW hc hs hl ret
  exact lv_ldc hM.1.1 hM.1.2.1 hM.1.2.2.2.1 (hM.1.2.2.2.2 _ hw) hd (k p e R s m args below meth c D dA A Q ad H locs cells slots ls hM hW hc hs hl ret)
theorem X_ldc2 {index : Nat} (v : Int64) (hw : Cond.constantLong M.1.cls index v ∈ TBL) (hd : decode M.2.1 pc = .ok (.ldc2_w index, 3)) (k : X g M d nc ns post (pc + 3) L (.long v :: st) h) : X g M d nc ns post pc L st h := by
  intro p e R s m args below meth c D dA A Q ad H locs cells slots ls hM hW hc hs hl ret
  exact lv_ldc2 hM.1.1 hM.1.2.1 hM.1.2.2.2.1 (hM.1.2.2.2.2 _ hw) hd (k p e R s m args below meth c D dA A Q ad H locs cells slots ls hM hW hc hs hl ret)
theorem X_ireturn {x : Int32} {ty : FieldType} (hd : decode M.2.1 pc = .ok (.ireturn, 1)) (hr : M.2.2.2 = some ty) (hn : narrow ty (.int x) = .int x) (hp : post (some (.int x)) h) : X g M d nc ns post pc L [.int x] h := by
  intro p e R s m args below meth c D dA A Q ad H locs cells slots ls hM hW hc hs hl ret
  exact ret (some (.int x)) h ad H locs cells slots ls pc .ireturn hd (Or.inr (Or.inl ⟨ty, x, hr, rfl, rfl, hn⟩)) hp ⟨Nat.le_refl _, fun _ _ => rfl⟩ hW (by omega) (by omega)
theorem X_lreturn {x : Int64} (hd : decode M.2.1 pc = .ok (.lreturn, 1)) (hr : M.2.2.2 = some .long) (hp : post (some (.long x)) h) : X g M d nc ns post pc L [.long x] h := by
  intro p e R s m args below meth c D dA A Q ad H locs cells slots ls hM hW hc hs hl ret
  exact ret (some (.long x)) h ad H locs cells slots ls pc .lreturn hd (Or.inr (Or.inr ⟨x, hr, rfl, rfl⟩)) hp ⟨Nat.le_refl _, fun _ _ => rfl⟩ hW (by omega) (by omega)
theorem X_return (hd : decode M.2.1 pc = .ok (.return_, 1)) (hr : M.2.2.2 = none) (hp : post none h) : X g M d nc ns post pc L [] h := by
  intro p e R s m args below meth c D dA A Q ad H locs cells slots ls hM hW hc hs hl ret
  exact ret none h ad H locs cells slots ls pc .return_ hd (Or.inl ⟨hr, rfl, rfl⟩) hp ⟨Nat.le_refl _, fun _ _ => rfl⟩ hW (by omega) (by omega)
end XR
