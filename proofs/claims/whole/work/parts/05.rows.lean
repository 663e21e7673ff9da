section GoRows
variable {P : gX → Prop} {y : MethodName} {cc : ByteArray} {nL : Nat} {rt : Option FieldType} {d mc ms : Nat} {Q : Option Value → List va_E → Prop} {k n : Nat} {w : List va_E} {pc q : Nat} {ls : List (Option Value)} {st : List Value}
theorem go_iconst {z : Int} {v : Int32} (hd : decode cc pc = .ok (.iconst z, 1)) (hv : Int32.ofInt z = v) (hq : pc + 1 = q) (h : Go P y cc nL rt d mc ms Q k n w q ls (.int v :: st)) : Go P y cc nL rt d mc ms Q k n w pc ls st := by
  subst hq
  exact fun G hg p l e R s m args below meth c Z A E H locs la hP hS hl => lv_iconst A.1 A.2.1 hd hv (h G hg p l e R s m args below meth c Z A E H locs la hP hS hl)
theorem go_bipush {z : Int} {v : Int32} (hd : decode cc pc = .ok (.bipush z, 2)) (hv : (Int8.ofInt z).toInt32 = v) (hq : pc + 2 = q) (h : Go P y cc nL rt d mc ms Q k n w q ls (.int v :: st)) : Go P y cc nL rt d mc ms Q k n w pc ls st := by
  subst hq
  exact fun G hg p l e R s m args below meth c Z A E H locs la hP hS hl => lv_bipush A.1 A.2.1 hd hv (h G hg p l e R s m args below meth c Z A E H locs la hP hS hl)
theorem go_sipush {z : Int} {v : Int32} (hd : decode cc pc = .ok (.sipush z, 3)) (hv : (Int16.ofInt z).toInt32 = v) (hq : pc + 3 = q) (h : Go P y cc nL rt d mc ms Q k n w q ls (.int v :: st)) : Go P y cc nL rt d mc ms Q k n w pc ls st := by
  subst hq
  exact fun G hg p l e R s m args below meth c Z A E H locs la hP hS hl => lv_sipush A.1 A.2.1 hd hv (h G hg p l e R s m args below meth c Z A E H locs la hP hS hl)
theorem go_iadd {a b : Int32} (hd : decode cc pc = .ok (.iadd, 1)) (hq : pc + 1 = q) (h : Go P y cc nL rt d mc ms Q k n w q ls (.int (a + b) :: st)) : Go P y cc nL rt d mc ms Q k n w pc ls (.int b :: .int a :: st) := by
  subst hq
  exact fun G hg p l e R s m args below meth c Z A E H locs la hP hS hl => lv_iadd A.1 A.2.1 hd (h G hg p l e R s m args below meth c Z A E H locs la hP hS hl)
theorem go_isub {a b : Int32} (hd : decode cc pc = .ok (.isub, 1)) (hq : pc + 1 = q) (h : Go P y cc nL rt d mc ms Q k n w q ls (.int (a - b) :: st)) : Go P y cc nL rt d mc ms Q k n w pc ls (.int b :: .int a :: st) := by
  subst hq
  exact fun G hg p l e R s m args below meth c Z A E H locs la hP hS hl => lv_isub A.1 A.2.1 hd (h G hg p l e R s m args below meth c Z A E H locs la hP hS hl)
theorem go_imul {a b : Int32} (hd : decode cc pc = .ok (.imul, 1)) (hq : pc + 1 = q) (h : Go P y cc nL rt d mc ms Q k n w q ls (.int (a * b) :: st)) : Go P y cc nL rt d mc ms Q k n w pc ls (.int b :: .int a :: st) := by
  subst hq
  exact fun G hg p l e R s m args below meth c Z A E H locs la hP hS hl => lv_imul A.1 A.2.1 hd (h G hg p l e R s m args below meth c Z A E H locs la hP hS hl)
theorem go_iand {a b : Int32} (hd : decode cc pc = .ok (.iand, 1)) (hq : pc + 1 = q) (h : Go P y cc nL rt d mc ms Q k n w q ls (.int (a &&& b) :: st)) : Go P y cc nL rt d mc ms Q k n w pc ls (.int b :: .int a :: st) := by
  subst hq
  exact fun G hg p l e R s m args below meth c Z A E H locs la hP hS hl => lv_iand A.1 A.2.1 hd (h G hg p l e R s m args below meth c Z A E H locs la hP hS hl)
theorem go_ior {a b : Int32} (hd : decode cc pc = .ok (.ior, 1)) (hq : pc + 1 = q) (h : Go P y cc nL rt d mc ms Q k n w q ls (.int (a ||| b) :: st)) : Go P y cc nL rt d mc ms Q k n w pc ls (.int b :: .int a :: st) := by
  subst hq
  exact fun G hg p l e R s m args below meth c Z A E H locs la hP hS hl => lv_ior A.1 A.2.1 hd (h G hg p l e R s m args below meth c Z A E H locs la hP hS hl)
theorem go_ixor {a b : Int32} (hd : decode cc pc = .ok (.ixor, 1)) (hq : pc + 1 = q) (h : Go P y cc nL rt d mc ms Q k n w q ls (.int (a ^^^ b) :: st)) : Go P y cc nL rt d mc ms Q k n w pc ls (.int b :: .int a :: st) := by
  subst hq
  exact fun G hg p l e R s m args below meth c Z A E H locs la hP hS hl => lv_ixor A.1 A.2.1 hd (h G hg p l e R s m args below meth c Z A E H locs la hP hS hl)
theorem go_ishl {a b : Int32} (hd : decode cc pc = .ok (.ishl, 1)) (hq : pc + 1 = q) (h : Go P y cc nL rt d mc ms Q k n w q ls (.int (a <<< (b &&& 31)) :: st)) : Go P y cc nL rt d mc ms Q k n w pc ls (.int b :: .int a :: st) := by
  subst hq
  exact fun G hg p l e R s m args below meth c Z A E H locs la hP hS hl => lv_ishl A.1 A.2.1 hd (h G hg p l e R s m args below meth c Z A E H locs la hP hS hl)
theorem go_ishr {a b : Int32} (hd : decode cc pc = .ok (.ishr, 1)) (hq : pc + 1 = q) (h : Go P y cc nL rt d mc ms Q k n w q ls (.int (a >>> (b &&& 31)) :: st)) : Go P y cc nL rt d mc ms Q k n w pc ls (.int b :: .int a :: st) := by
  subst hq
  exact fun G hg p l e R s m args below meth c Z A E H locs la hP hS hl => lv_ishr A.1 A.2.1 hd (h G hg p l e R s m args below meth c Z A E H locs la hP hS hl)
theorem go_iushr {a b : Int32} (hd : decode cc pc = .ok (.iushr, 1)) (hq : pc + 1 = q) (h : Go P y cc nL rt d mc ms Q k n w q ls (.int ((a.toUInt32 >>> (b.toUInt32 &&& Int32.toUInt32 31)).toInt32) :: st)) : Go P y cc nL rt d mc ms Q k n w pc ls (.int b :: .int a :: st) := by
  subst hq
  exact fun G hg p l e R s m args below meth c Z A E H locs la hP hS hl => lv_iushr A.1 A.2.1 hd rfl (h G hg p l e R s m args below meth c Z A E H locs la hP hS hl)
theorem go_idiv {a b : Int32} (hd : decode cc pc = .ok (.idiv, 1)) (hne : ¬ b = 0) (hq : pc + 1 = q) (h : Go P y cc nL rt d mc ms Q k n w q ls (.int (a / b) :: st)) : Go P y cc nL rt d mc ms Q k n w pc ls (.int b :: .int a :: st) := by
  subst hq
  exact fun G hg p l e R s m args below meth c Z A E H locs la hP hS hl => lv_idiv A.1 A.2.1 hd hne (h G hg p l e R s m args below meth c Z A E H locs la hP hS hl)
theorem go_irem {a b : Int32} (hd : decode cc pc = .ok (.irem, 1)) (hne : ¬ b = 0) (hq : pc + 1 = q) (h : Go P y cc nL rt d mc ms Q k n w q ls (.int (a - a / b * b) :: st)) : Go P y cc nL rt d mc ms Q k n w pc ls (.int b :: .int a :: st) := by
  subst hq
  exact fun G hg p l e R s m args below meth c Z A E H locs la hP hS hl => lv_irem A.1 A.2.1 hd hne (h G hg p l e R s m args below meth c Z A E H locs la hP hS hl)
theorem go_ineg {a : Int32} (hd : decode cc pc = .ok (.ineg, 1)) (hq : pc + 1 = q) (h : Go P y cc nL rt d mc ms Q k n w q ls (.int (-a) :: st)) : Go P y cc nL rt d mc ms Q k n w pc ls (.int a :: st) := by
  subst hq
  exact fun G hg p l e R s m args below meth c Z A E H locs la hP hS hl => lv_ineg A.1 A.2.1 hd (h G hg p l e R s m args below meth c Z A E H locs la hP hS hl)
theorem go_i2b {a : Int32} (hd : decode cc pc = .ok (.i2b, 1)) (hq : pc + 1 = q) (h : Go P y cc nL rt d mc ms Q k n w q ls (.int a.toInt8.toInt32 :: st)) : Go P y cc nL rt d mc ms Q k n w pc ls (.int a :: st) := by
  subst hq
  exact fun G hg p l e R s m args below meth c Z A E H locs la hP hS hl => lv_i2b A.1 A.2.1 hd rfl (h G hg p l e R s m args below meth c Z A E H locs la hP hS hl)
theorem go_dup {v : Value} (hd : decode cc pc = .ok (.dup, 1)) (hc : v.category = 1) (hq : pc + 1 = q) (h : Go P y cc nL rt d mc ms Q k n w q ls (v :: v :: st)) : Go P y cc nL rt d mc ms Q k n w pc ls (v :: st) := by
  subst hq
  exact fun G hg p l e R s m args below meth c Z A E H locs la hP hS hl => lv_dup A.1 A.2.1 hd (by rw [gv_cat]; exact hc) (h G hg p l e R s m args below meth c Z A E H locs la hP hS hl)
theorem go_pop {v : Value} (hd : decode cc pc = .ok (.pop, 1)) (hc : v.category = 1) (hq : pc + 1 = q) (h : Go P y cc nL rt d mc ms Q k n w q ls st) : Go P y cc nL rt d mc ms Q k n w pc ls (v :: st) := by
  subst hq
  exact fun G hg p l e R s m args below meth c Z A E H locs la hP hS hl => lv_pop A.1 A.2.1 hd (by rw [gv_cat]; exact hc) (h G hg p l e R s m args below meth c Z A E H locs la hP hS hl)
theorem go_iload_n {i : Fin 4} {x : Int32} (hd : decode cc pc = .ok (.iload_n i, 1)) (hx : ls[(i : Nat)]? = some (some (.int x))) (hq : pc + 1 = q) (h : Go P y cc nL rt d mc ms Q k n w q ls (.int x :: st)) : Go P y cc nL rt d mc ms Q k n w pc ls st := by
  subst hq
  exact fun G hg p l e R s m args below meth c Z A E H locs la hP hS hl => lv_iload_n A.1 A.2.1 hd rfl (hl.2.2 _ _ hx).1 (h G hg p l e R s m args below meth c Z A E H locs la hP hS hl)
theorem go_iload {i : Nat} {x : Int32} (hd : decode cc pc = .ok (.iload i, 2)) (hx : ls[i]? = some (some (.int x))) (hq : pc + 2 = q) (h : Go P y cc nL rt d mc ms Q k n w q ls (.int x :: st)) : Go P y cc nL rt d mc ms Q k n w pc ls st := by
  subst hq
  exact fun G hg p l e R s m args below meth c Z A E H locs la hP hS hl => lv_iload A.1 A.2.1 hd (hl.2.2 _ _ hx).1 (h G hg p l e R s m args below meth c Z A E H locs la hP hS hl)
theorem go_istore_n {i : Fin 4} {x : Int32} {ls2 : List (Option Value)} (hd : decode cc pc = .ok (.istore_n i, 1)) (hn : (i : Nat) < nL) (hs : ls.set (i : Nat) (some (.int x)) = ls2) (hq : pc + 1 = q) (h : Go P y cc nL rt d mc ms Q k n w q ls2 st) : Go P y cc nL rt d mc ms Q k n w pc ls (.int x :: st) := by
  subst hq
  subst hs
  exact fun G hg p l e R s m args below meth c Z A E H locs la hP hS hl => lv_istore_n A.1 A.2.1 hd rfl hl.lv hn rfl (fun la2 h2 => h G hg p l e R s m args below meth c Z A E H locs la2 hP hS (hl.set (v := .int x) rfl h2))
theorem go_istore {i : Nat} {x : Int32} {ls2 : List (Option Value)} (hd : decode cc pc = .ok (.istore i, 2)) (hn : i < nL) (hs : ls.set i (some (.int x)) = ls2) (hq : pc + 2 = q) (h : Go P y cc nL rt d mc ms Q k n w q ls2 st) : Go P y cc nL rt d mc ms Q k n w pc ls (.int x :: st) := by
  subst hq
  subst hs
  exact fun G hg p l e R s m args below meth c Z A E H locs la hP hS hl => lv_istore A.1 A.2.1 hd hl.lv hn rfl (fun la2 h2 => h G hg p l e R s m args below meth c Z A E H locs la2 hP hS (hl.set (v := .int x) rfl h2))
theorem go_aload_n {i : Fin 4} {x : Nat} (hd : decode cc pc = .ok (.aload_n i, 1)) (hx : ls[(i : Nat)]? = some (some (.ref x))) (hq : pc + 1 = q) (h : Go P y cc nL rt d mc ms Q k n w q ls (.ref x :: st)) : Go P y cc nL rt d mc ms Q k n w pc ls st := by
  subst hq
  exact fun G hg p l e R s m args below meth c Z A E H locs la hP hS hl => lv_aload_n A.1 A.2.1 hd rfl (hl.2.2 _ _ hx).1 (h G hg p l e R s m args below meth c Z A E H locs la hP hS hl)
theorem go_aload {i : Nat} {x : Nat} (hd : decode cc pc = .ok (.aload i, 2)) (hx : ls[i]? = some (some (.ref x))) (hq : pc + 2 = q) (h : Go P y cc nL rt d mc ms Q k n w q ls (.ref x :: st)) : Go P y cc nL rt d mc ms Q k n w pc ls st := by
  subst hq
  exact fun G hg p l e R s m args below meth c Z A E H locs la hP hS hl => lv_aload A.1 A.2.1 hd (hl.2.2 _ _ hx).1 (h G hg p l e R s m args below meth c Z A E H locs la hP hS hl)
theorem go_astore_n {i : Fin 4} {x : Nat} {ls2 : List (Option Value)} (hd : decode cc pc = .ok (.astore_n i, 1)) (hn : (i : Nat) < nL) (hs : ls.set (i : Nat) (some (.ref x)) = ls2) (hq : pc + 1 = q) (h : Go P y cc nL rt d mc ms Q k n w q ls2 st) : Go P y cc nL rt d mc ms Q k n w pc ls (.ref x :: st) := by
  subst hq
  subst hs
  exact fun G hg p l e R s m args below meth c Z A E H locs la hP hS hl => lv_astore_n A.1 A.2.1 hd rfl hl.lv hn rfl (fun la2 h2 => h G hg p l e R s m args below meth c Z A E H locs la2 hP hS (hl.set (v := .ref x) rfl h2))
theorem go_astore {i : Nat} {x : Nat} {ls2 : List (Option Value)} (hd : decode cc pc = .ok (.astore i, 2)) (hn : i < nL) (hs : ls.set i (some (.ref x)) = ls2) (hq : pc + 2 = q) (h : Go P y cc nL rt d mc ms Q k n w q ls2 st) : Go P y cc nL rt d mc ms Q k n w pc ls (.ref x :: st) := by
  subst hq
  subst hs
  exact fun G hg p l e R s m args below meth c Z A E H locs la hP hS hl => lv_astore A.1 A.2.1 hd hl.lv hn rfl (fun la2 h2 => h G hg p l e R s m args below meth c Z A E H locs la2 hP hS (hl.set (v := .ref x) rfl h2))
theorem go_iinc {i : Nat} {z : Int} {x v : Int32} {ls2 : List (Option Value)} (hd : decode cc pc = .ok (.iinc i z, 3)) (hn : i < nL) (hx : ls[i]? = some (some (.int x))) (hv : x + Int32.ofInt z = v) (hs : ls.set i (some (.int v)) = ls2) (hq : pc + 3 = q) (h : Go P y cc nL rt d mc ms Q k n w q ls2 st) : Go P y cc nL rt d mc ms Q k n w pc ls st := by
  subst hq
  subst hs
  intro G hg p l e R s m args below meth c Z A E H locs la hP hS hl
  obtain ⟨j, hj⟩ := List.getElem?_of_mem (gas_mem (G := G) hx)
  exact lv_iinc A.1 A.2.1 hd hl.lv hj hv hn rfl (fun la2 h2 => h G hg p l e R s m args below meth c Z A E H locs la2 hP hS (hl.set (v := .int v) rfl h2))
theorem go_if_eq {a : Int32} {off : Int} {tgt : Nat} (hd : decode cc pc = .ok (.ifCond .eq off, 3)) (ht : (pc : Int) + off = (tgt : Int)) (hq : pc + 3 = q) (h1 : a = 0 → Go P y cc nL rt d mc ms Q k n w tgt ls st) (h2 : ¬ a = 0 → Go P y cc nL rt d mc ms Q k n w q ls st) : Go P y cc nL rt d mc ms Q k n w pc ls (.int a :: st) := by
  subst hq
  exact fun G hg p l e R s m args below meth c Z A E H locs la hP hS hl => lv_if_eq A.1 A.2.1 hd ht (fun h => h1 h G hg p l e R s m args below meth c Z A E H locs la hP hS hl) (fun h => h2 h G hg p l e R s m args below meth c Z A E H locs la hP hS hl)
theorem go_if_ne {a : Int32} {off : Int} {tgt : Nat} (hd : decode cc pc = .ok (.ifCond .ne off, 3)) (ht : (pc : Int) + off = (tgt : Int)) (hq : pc + 3 = q) (h1 : ¬ a = 0 → Go P y cc nL rt d mc ms Q k n w tgt ls st) (h2 : a = 0 → Go P y cc nL rt d mc ms Q k n w q ls st) : Go P y cc nL rt d mc ms Q k n w pc ls (.int a :: st) := by
  subst hq
  exact fun G hg p l e R s m args below meth c Z A E H locs la hP hS hl => lv_if_ne A.1 A.2.1 hd ht (fun h => h1 h G hg p l e R s m args below meth c Z A E H locs la hP hS hl) (fun h => h2 h G hg p l e R s m args below meth c Z A E H locs la hP hS hl)
theorem go_if_lt {a : Int32} {off : Int} {tgt : Nat} (hd : decode cc pc = .ok (.ifCond .lt off, 3)) (ht : (pc : Int) + off = (tgt : Int)) (hq : pc + 3 = q) (h1 : a < 0 → Go P y cc nL rt d mc ms Q k n w tgt ls st) (h2 : ¬ a < 0 → Go P y cc nL rt d mc ms Q k n w q ls st) : Go P y cc nL rt d mc ms Q k n w pc ls (.int a :: st) := by
  subst hq
  exact fun G hg p l e R s m args below meth c Z A E H locs la hP hS hl => lv_if_lt A.1 A.2.1 hd ht (fun h => h1 h G hg p l e R s m args below meth c Z A E H locs la hP hS hl) (fun h => h2 h G hg p l e R s m args below meth c Z A E H locs la hP hS hl)
theorem go_if_ge {a : Int32} {off : Int} {tgt : Nat} (hd : decode cc pc = .ok (.ifCond .ge off, 3)) (ht : (pc : Int) + off = (tgt : Int)) (hq : pc + 3 = q) (h1 : 0 ≤ a → Go P y cc nL rt d mc ms Q k n w tgt ls st) (h2 : ¬ 0 ≤ a → Go P y cc nL rt d mc ms Q k n w q ls st) : Go P y cc nL rt d mc ms Q k n w pc ls (.int a :: st) := by
  subst hq
  exact fun G hg p l e R s m args below meth c Z A E H locs la hP hS hl => lv_if_ge A.1 A.2.1 hd ht (fun h => h1 h G hg p l e R s m args below meth c Z A E H locs la hP hS hl) (fun h => h2 h G hg p l e R s m args below meth c Z A E H locs la hP hS hl)
theorem go_if_gt {a : Int32} {off : Int} {tgt : Nat} (hd : decode cc pc = .ok (.ifCond .gt off, 3)) (ht : (pc : Int) + off = (tgt : Int)) (hq : pc + 3 = q) (h1 : 0 < a → Go P y cc nL rt d mc ms Q k n w tgt ls st) (h2 : ¬ 0 < a → Go P y cc nL rt d mc ms Q k n w q ls st) : Go P y cc nL rt d mc ms Q k n w pc ls (.int a :: st) := by
  subst hq
  exact fun G hg p l e R s m args below meth c Z A E H locs la hP hS hl => lv_if_gt A.1 A.2.1 hd ht (fun h => h1 h G hg p l e R s m args below meth c Z A E H locs la hP hS hl) (fun h => h2 h G hg p l e R s m args below meth c Z A E H locs la hP hS hl)
theorem go_if_le {a : Int32} {off : Int} {tgt : Nat} (hd : decode cc pc = .ok (.ifCond .le off, 3)) (ht : (pc : Int) + off = (tgt : Int)) (hq : pc + 3 = q) (h1 : a ≤ 0 → Go P y cc nL rt d mc ms Q k n w tgt ls st) (h2 : ¬ a ≤ 0 → Go P y cc nL rt d mc ms Q k n w q ls st) : Go P y cc nL rt d mc ms Q k n w pc ls (.int a :: st) := by
  subst hq
  exact fun G hg p l e R s m args below meth c Z A E H locs la hP hS hl => lv_if_le A.1 A.2.1 hd ht (fun h => h1 h G hg p l e R s m args below meth c Z A E H locs la hP hS hl) (fun h => h2 h G hg p l e R s m args below meth c Z A E H locs la hP hS hl)
theorem go_icmp_eq {a b : Int32} {off : Int} {tgt : Nat} (hd : decode cc pc = .ok (.if_icmp .eq off, 3)) (ht : (pc : Int) + off = (tgt : Int)) (hq : pc + 3 = q) (h1 : a = b → Go P y cc nL rt d mc ms Q k n w tgt ls st) (h2 : ¬ a = b → Go P y cc nL rt d mc ms Q k n w q ls st) : Go P y cc nL rt d mc ms Q k n w pc ls (.int b :: .int a :: st) := by
  subst hq
  exact fun G hg p l e R s m args below meth c Z A E H locs la hP hS hl => lv_icmp_eq A.1 A.2.1 hd ht (fun h => h1 h G hg p l e R s m args below meth c Z A E H locs la hP hS hl) (fun h => h2 h G hg p l e R s m args below meth c Z A E H locs la hP hS hl)
theorem go_icmp_ne {a b : Int32} {off : Int} {tgt : Nat} (hd : decode cc pc = .ok (.if_icmp .ne off, 3)) (ht : (pc : Int) + off = (tgt : Int)) (hq : pc + 3 = q) (h1 : ¬ a = b → Go P y cc nL rt d mc ms Q k n w tgt ls st) (h2 : a = b → Go P y cc nL rt d mc ms Q k n w q ls st) : Go P y cc nL rt d mc ms Q k n w pc ls (.int b :: .int a :: st) := by
  subst hq
  exact fun G hg p l e R s m args below meth c Z A E H locs la hP hS hl => lv_icmp_ne A.1 A.2.1 hd ht (fun h => h1 h G hg p l e R s m args below meth c Z A E H locs la hP hS hl) (fun h => h2 h G hg p l e R s m args below meth c Z A E H locs la hP hS hl)
theorem go_icmp_lt {a b : Int32} {off : Int} {tgt : Nat} (hd : decode cc pc = .ok (.if_icmp .lt off, 3)) (ht : (pc : Int) + off = (tgt : Int)) (hq : pc + 3 = q) (h1 : a < b → Go P y cc nL rt d mc ms Q k n w tgt ls st) (h2 : ¬ a < b → Go P y cc nL rt d mc ms Q k n w q ls st) : Go P y cc nL rt d mc ms Q k n w pc ls (.int b :: .int a :: st) := by
  subst hq
  exact fun G hg p l e R s m args below meth c Z A E H locs la hP hS hl => lv_icmp_lt A.1 A.2.1 hd ht (fun h => h1 h G hg p l e R s m args below meth c Z A E H locs la hP hS hl) (fun h => h2 h G hg p l e R s m args below meth c Z A E H locs la hP hS hl)
theorem go_icmp_ge {a b : Int32} {off : Int} {tgt : Nat} (hd : decode cc pc = .ok (.if_icmp .ge off, 3)) (ht : (pc : Int) + off = (tgt : Int)) (hq : pc + 3 = q) (h1 : b ≤ a → Go P y cc nL rt d mc ms Q k n w tgt ls st) (h2 : ¬ b ≤ a → Go P y cc nL rt d mc ms Q k n w q ls st) : Go P y cc nL rt d mc ms Q k n w pc ls (.int b :: .int a :: st) := by
  subst hq
  exact fun G hg p l e R s m args below meth c Z A E H locs la hP hS hl => lv_icmp_ge A.1 A.2.1 hd ht (fun h => h1 h G hg p l e R s m args below meth c Z A E H locs la hP hS hl) (fun h => h2 h G hg p l e R s m args below meth c Z A E H locs la hP hS hl)
theorem go_icmp_gt {a b : Int32} {off : Int} {tgt : Nat} (hd : decode cc pc = .ok (.if_icmp .gt off, 3)) (ht : (pc : Int) + off = (tgt : Int)) (hq : pc + 3 = q) (h1 : b < a → Go P y cc nL rt d mc ms Q k n w tgt ls st) (h2 : ¬ b < a → Go P y cc nL rt d mc ms Q k n w q ls st) : Go P y cc nL rt d mc ms Q k n w pc ls (.int b :: .int a :: st) := by
  subst hq
  exact fun G hg p l e R s m args below meth c Z A E H locs la hP hS hl => lv_icmp_gt A.1 A.2.1 hd ht (fun h => h1 h G hg p l e R s m args below meth c Z A E H locs la hP hS hl) (fun h => h2 h G hg p l e R s m args below meth c Z A E H locs la hP hS hl)
theorem go_icmp_le {a b : Int32} {off : Int} {tgt : Nat} (hd : decode cc pc = .ok (.if_icmp .le off, 3)) (ht : (pc : Int) + off = (tgt : Int)) (hq : pc + 3 = q) (h1 : a ≤ b → Go P y cc nL rt d mc ms Q k n w tgt ls st) (h2 : ¬ a ≤ b → Go P y cc nL rt d mc ms Q k n w q ls st) : Go P y cc nL rt d mc ms Q k n w pc ls (.int b :: .int a :: st) := by
  subst hq
  exact fun G hg p l e R s m args below meth c Z A E H locs la hP hS hl => lv_icmp_le A.1 A.2.1 hd ht (fun h => h1 h G hg p l e R s m args below meth c Z A E H locs la hP hS hl) (fun h => h2 h G hg p l e R s m args below meth c Z A E H locs la hP hS hl)
theorem go_goto {off : Int} {tgt : Nat} (hd : decode cc pc = .ok (.goto off, 3)) (ht : (pc : Int) + off = (tgt : Int)) (h : Go P y cc nL rt d mc ms Q k n w tgt ls st) : Go P y cc nL rt d mc ms Q k n w pc ls st := fun G hg p l e R s m args below meth c Z A E H locs la hP hS hl => lv_goto A.1 A.2.1 hd ht (h G hg p l e R s m args below meth c Z A E H locs la hP hS hl)
theorem go_tblIn {dflt lo hi : Int} {offs : Array Int} {len : Nat} {x : Int32} {off : Int} {tgt : Nat} (hd : decode cc pc = .ok (.tableswitch dflt lo hi offs, len)) (h1 : ¬ x.toInt < lo) (h2 : ¬ hi < x.toInt) (ho : offs[(x.toInt - lo).toNat]? = some off) (ht : (pc : Int) + off = (tgt : Int)) (h : Go P y cc nL rt d mc ms Q k n w tgt ls st) : Go P y cc nL rt d mc ms Q k n w pc ls (.int x :: st) := fun G hg p l e R s m args below meth c Z A E H locs la hP hS hl => lv_tableIn A.1 A.2.1 hd h1 h2 ho ht (h G hg p l e R s m args below meth c Z A E H locs la hP hS hl)
theorem go_tblOut {dflt lo hi : Int} {offs : Array Int} {len : Nat} {x : Int32} {tgt : Nat} (hd : decode cc pc = .ok (.tableswitch dflt lo hi offs, len)) (h0 : x.toInt < lo ∨ hi < x.toInt) (ht : (pc : Int) + dflt = (tgt : Int)) (h : Go P y cc nL rt d mc ms Q k n w tgt ls st) : Go P y cc nL rt d mc ms Q k n w pc ls (.int x :: st) := fun G hg p l e R s m args below meth c Z A E H locs la hP hS hl => lv_tableOut A.1 A.2.1 hd h0 ht (h G hg p l e R s m args below meth c Z A E H locs la hP hS hl)
theorem go_lookup {dflt : Int} {ps : Array (Int × Int)} {len : Nat} {x : Int32} {off : Int} {tgt : Nat} (hd : decode cc pc = .ok (.lookupswitch dflt ps, len)) (hp : (ps.toList.zip (ps.toList.drop 1)).all (fun (a, next) => a.1 < next.1) = true) (ho : Op.lookupswitch.offset ps.toList dflt x.toInt = off) (ht : (pc : Int) + off = (tgt : Int)) (h : Go P y cc nL rt d mc ms Q k n w tgt ls st) : Go P y cc nL rt d mc ms Q k n w pc ls (.int x :: st) := fun G hg p l e R s m args below meth c Z A E H locs la hP hS hl => lv_lookup A.1 A.2.1 hd hp ho ht (h G hg p l e R s m args below meth c Z A E H locs la hP hS hl)
theorem go_ret (hd : decode cc pc = .ok (.return_, 1)) (hr : rt = none) (hk : k ≤ mc) (hn : n ≤ ms) (hQ : Q none w) : Go P y cc nL rt d mc ms Q k n w pc ls [] := fun G hg p l e R s m args below meth c Z A E H locs la hP hS hl => W.widen hk hn (E none w pc H locs la hQ hP hS ⟨hd, hr⟩)
theorem go_iret {v : Int32} {ty : FieldType} (hd : decode cc pc = .ok (.ireturn, 1)) (hr : rt = some ty) (hv : narrow ty (.int v) = .int v) (hk : k ≤ mc) (hn : n ≤ ms) (hQ : Q (some (.int v)) w) : Go P y cc nL rt d mc ms Q k n w pc ls [.int v] := fun G hg p l e R s m args below meth c Z A E H locs la hP hS hl => W.widen hk hn (E (some (.int v)) w pc H locs la hQ hP hS ⟨hd, ty, hr, hv⟩)
theorem go_w {w2 : List va_E} (hw : w = w2) (h : Go P y cc nL rt d mc ms Q k n w2 pc ls st) : Go P y cc nL rt d mc ms Q k n w pc ls st := hw ▸ h
theorem go_mono {Q2 : Option Value → List va_E → Prop} (hQ : ∀ r u, Q2 r u → Q r u) (h : Go P y cc nL rt d mc ms Q2 k n w pc ls st) : Go P y cc nL rt d mc ms Q k n w pc ls st := fun G hg p l e R s m args below meth c Z A E => h G hg p l e R s m args below meth c Z A (fun r u pc' H locs la hq => E r u pc' H locs la (hQ r u hq))
end GoRows
