/-! THE CLAIM OUT OF ONE WALK OF THE LAW'S BODY. Your part is whole_start (and what it stands on); all else here is the same for every law, but numbers. -/
def R_law : String := "GameTellerLaw"
def lw_P (b : Addr) (xs : List Int32) (args : Array Value) (s : State) : Prop := args = #[.ref b] ∧ s.IntsAt b xs ∧ xs.length ≤ 3072 ∧ (Jvm.Cond.and given_1 narrow_1).before args s = true
def lw_Q (_ : Array Value) (s : State) (o : Outcome) (t : State) : Prop := o = .returned (some (.int 1)) ∧ Framed s o t [] 600000 7302250
def lw_Z (below : List Frame) (a : Array Value) (s : State) : State → Prop := fun t => ∃ o, t.status = .running ∧ Ended t below o ∧ lw_Q a s o t
/-- the law's own end, with 1 on the stack, nothing written that was there before, its room as the claim has it -/
theorem lw_ret {p : Program} {l : Launch} {e : Env} {s : State} {m : MethodId} {below : List Frame} {meth : Method} {c : Code} {b : Nat} (hx : p.tables.exec = Jvm.exec) (hb : c.code = code) (hr : meth.sig.returnType = ret) (hlocks : meth.locks = false) {pc : Nat} {H : Heap} {ls : Array Slot} (hdg : decode code pc = .ok (.ireturn, 1)) : W p l e room_1 s m #[Value.ref b] below meth c H [] 600000 7302250 (lw_Z below #[Value.ref b] s) (F0 m pc ls [.int 1]) := by
  intro T hT X
  obtain ⟨fs, hret, hrun, hended, hW, hframe⟩ := X.leave (v := some (.int 1)) (hlocks := hlocks) (fun h => by rw [hr] at h; cases h)
  have hmeth' : T.vm.method? m = some meth := X.method'
  refine ⟨T.setFrames fs, ?_, .returned (some (.int 1)), hrun, hended, rfl, ⟨_, rfl⟩, hW, hframe⟩
  jvm_step X.here [X.here.top, hx, hb, hdg, hmeth', hr, ret, narrow_b1]
  (try refine ⟨rfl, ?_⟩); (try refine ⟨rfl, ?_⟩)
  first | (intro acts; rw [hret _ acts rfl rfl rfl]) | rw [hret _ _ rfl rfl rfl]
  exact Steps.refl _
/-- what holds at the law's entry: the machine, the code, the tables' words (any of lw_tbl by 'hts w (by decide +kernel)'), the script of L ints xs at the cell b, what the Statement gives of the start (any of its parts by flat_of_before) -/
def lw_At (p : Program) (s : State) (m : MethodId) (meth : Method) (c : Code) (b L : Nat) (xs : Nat → Int32) : Prop :=
  p.tables.exec = Jvm.exec ∧ c.code = code ∧ meth.sig.returnType = ret ∧ c.maxLocals = 4 ∧ s.vm.findClass R_law = some m.cls ∧ (∀ w ∈ lw_tbl, w.before #[Value.ref b] s = true) ∧ va_X b L xs s s.heap ∧ b < s.heap.size ∧ meth.locks = false ∧ (Jvm.Cond.and given_1 narrow_1).before #[Value.ref b] s = true

theorem g_words : ∀ {args : Array Value} {s : State}, (∀ w ∈ lw_tbl, w.before args s = true) → ∀ w ∈ gT, w.before args s = true := fun h w hw => h w (List.mem_filter.mp hw).1
theorem g_arrK {args : Array Value} {s : State} {ty : FieldType} (h : (Cond.arrayClass ty).before args s = true) : ∃ cA : ClassId, ArrOfT s cA ty ∧ s.vm.findClass ("[" ++ ty.toString) = some cA := by
  obtain ⟨c, k, comp, h1, h2, h3⟩ := Cond.arrayClass_spec h
  exact ⟨c, fun n z => ⟨fun j hj => (by cases hj), k, h2, comp, h3⟩, h1⟩
theorem lays_steps : Cond.laysStatic RX0 "STEPS" "[I" ∈ lw_tbl := List.mem_append_right _ (List.mem_of_getElem? (i := 307) (by decide +kernel))
theorem in_arr_i : Cond.arrayClass .int ∈ lw_tbl := List.mem_append_right _ (List.mem_of_getElem? (i := 91) (by decide +kernel))
theorem in_arr_b : Cond.arrayClass .byte ∈ lw_tbl := List.mem_append_right _ (List.mem_of_getElem? (i := 158) (by decide +kernel))
theorem in_arr_z : Cond.arrayClass .boolean ∈ lw_tbl := List.mem_append_right _ (List.mem_of_getElem? (i := 727) (by decide +kernel))
theorem in_inst_0 : Cond.instantiable RX0 7 ∈ gT := gT_t (i := 23) (by decide +kernel) rfl
theorem in_inst_1 : Cond.instantiable RX1 7 ∈ gT := gT_t (i := 173) (by decide +kernel) rfl
theorem in_inst_2 : Cond.instantiable RX2 8 ∈ gT := gT_t (i := 103) (by decide +kernel) rfl
theorem in_inst_3 : Cond.instantiable RX3 4 ∈ gT := gT_t (i := 69) (by decide +kernel) rfl
theorem in_inst_4 : Cond.instantiable RX4 4 ∈ gT := gT_t (i := 138) (by decide +kernel) rfl
theorem in_inst_5 : Cond.instantiable RX5 1 ∈ gT := gT_t (i := 93) (by decide +kernel) rfl
theorem in_inst_6 : Cond.instantiable RX6 6 ∈ gT := gT_t (i := 201) (by decide +kernel) rfl
theorem in_inst_7 : Cond.instantiable RX7 2 ∈ gT := gT_t (i := 144) (by decide +kernel) rfl
theorem in_inst_8 : Cond.instantiable RX8 8 ∈ gT := gT_t (i := 15) (by decide +kernel) rfl
theorem in_inst_9 : Cond.instantiable RX9 28 ∈ gT := gT_t (i := 633) (by decide +kernel) rfl
/-- the law's world: what is known at its entry -/
theorem g_world {s : State} {b L : Nat} {xs : Nat → Int32} (hts : ∀ w ∈ lw_tbl, w.before #[Value.ref b] s = true) (hX : va_X b L xs s s.heap) (hbl : b < s.heap.size) (hgv : (Jvm.Cond.and given_1 narrow_1).before #[Value.ref b] s = true) : ∃ G : gX, gB G = s.heap.size ∧ gaX G = b ∧ gL G = L ∧ gxs G = xs ∧ gFix G s s.heap := by
  have ht := g_words hts
  obtain ⟨c0, iS0, hKn0⟩ := u_known (C := RX0) (T := TX0) (N := 7) (n := 7) ht inX0 (ht _ in_inst_0)
  obtain ⟨c1, iS1, hKn1⟩ := u_known (C := RX1) (T := TX1) (N := 7) (n := 7) ht inX1 (ht _ in_inst_1)
  obtain ⟨c2, iS2, hKn2⟩ := u_known (C := RX2) (T := TX2) (N := 8) (n := 8) ht inX2 (ht _ in_inst_2)
  obtain ⟨c3, iS3, hKn3⟩ := u_known (C := RX3) (T := TX3) (N := 4) (n := 4) ht inX3 (ht _ in_inst_3)
  obtain ⟨c4, iS4, hKn4⟩ := u_known (C := RX4) (T := TX4) (N := 4) (n := 4) ht inX4 (ht _ in_inst_4)
  obtain ⟨c5, iS5, hKn5⟩ := u_known (C := RX5) (T := TX5) (N := 1) (n := 1) ht inX5 (ht _ in_inst_5)
  obtain ⟨c6, iS6, hKn6⟩ := u_known (C := RX6) (T := TX6) (N := 6) (n := 6) ht inX6 (ht _ in_inst_6)
  obtain ⟨c7, iS7, hKn7⟩ := u_known (C := RX7) (T := TX7) (N := 2) (n := 2) ht inX7 (ht _ in_inst_7)
  obtain ⟨c8, iS8, hKn8⟩ := u_known (C := RX8) (T := TX8) (N := 8) (n := 8) ht inX8 (ht _ in_inst_8)
  obtain ⟨c9, iS9, hKn9⟩ := u_known (C := RX9) (T := TX9) (N := 28) (n := 28) ht inX9 (ht _ in_inst_9)
  obtain ⟨dC, dI, hKc⟩ : ∃ (dC : Nat → ClassId) (dI : Nat → Nat → Nat), ∀ (k : Nat) (q : vw_C), gCl[k]? = some q → u_Kn s q.1 q.2.1 q.2.2 (dC k) (dI k) := by
    refine ⟨fun k => match k with
      | 0 => c0
      | 1 => c1
      | 2 => c2
      | 3 => c3
      | 4 => c4
      | 5 => c5
      | 6 => c6
      | 7 => c7
      | 8 => c8
      | _ => c9, fun k => match k with
      | 0 => iS0
      | 1 => iS1
      | 2 => iS2
      | 3 => iS3
      | 4 => iS4
      | 5 => iS5
      | 6 => iS6
      | 7 => iS7
      | 8 => iS8
      | _ => iS9, ?_⟩
    intro k q hq
    match k, hq with
    | 0, hq => cases hq; exact hKn0
    | 1, hq => cases hq; exact hKn1
    | 2, hq => cases hq; exact hKn2
    | 3, hq => cases hq; exact hKn3
    | 4, hq => cases hq; exact hKn4
    | 5, hq => cases hq; exact hKn5
    | 6, hq => cases hq; exact hKn6
    | 7, hq => cases hq; exact hKn7
    | 8, hq => cases hq; exact hKn8
    | 9, hq => cases hq; exact hKn9
    | k + 10, hq => simp [gCl] at hq
  obtain ⟨cI, hI1, hI2⟩ := g_arrK (hts _ in_arr_i)
  obtain ⟨cB, hB1, hB2⟩ := g_arrK (hts _ in_arr_b)
  obtain ⟨cZ, hZ1, hZ2⟩ := g_arrK (hts _ in_arr_z)
  have hs := flat_of_before _ hgv
  have harr : (Cond.arrayOf (.static "GameTeller$Board" "STEPS" "[I") .int).before #[Value.ref b] s = true := hs _ (by decide +kernel)
  have hlen : (Cond.eq (.length (.static "GameTeller$Board" "STEPS" "[I")) (.int 4)).before #[Value.ref b] s = true := hs _ (by decide +kernel)
  have e0 : (Cond.eq (.elem (.static "GameTeller$Board" "STEPS" "[I") (.int 0)) (.int 1)).before #[Value.ref b] s = true := hs _ (by decide +kernel)
  have e1 : (Cond.eq (.elem (.static "GameTeller$Board" "STEPS" "[I") (.int 1)) (.int 4)).before #[Value.ref b] s = true := hs _ (by decide +kernel)
  have e2 : (Cond.eq (.elem (.static "GameTeller$Board" "STEPS" "[I") (.int 2)) (.int 5)).before #[Value.ref b] s = true := hs _ (by decide +kernel)
  have e3 : (Cond.eq (.elem (.static "GameTeller$Board" "STEPS" "[I") (.int 3)) (.int 6)).before #[Value.ref b] s = true := hs _ (by decide +kernel)
  have hA : ∀ a : Nat, a < s.heap.size → ¬ (fun q : Nat => s.heap.size ≤ q) a := fun a h => Nat.not_le.mpr h
  obtain ⟨t, ht1, ht2⟩ := va_Tof (N := 4) (f := fun j => .int (gSteps j)) (A := fun q : Nat => s.heap.size ≤ q) (by decide) harr (va_eqt hlen) (fun j hj => by
    rcases (show j = 0 ∨ j = 1 ∨ j = 2 ∨ j = 3 by omega) with rfl | rfl | rfl | rfl
    · exact va_eqt e0
    · exact va_eqt e1
    · exact va_eqt e2
    · exact va_eqt e3) hA
  refine ⟨((dC, dI), (fun k => match k with
    | 0 => cI
    | 1 => cB
    | _ => cZ), s.heap.size, t, b, L, xs), rfl, rfl, rfl, rfl, ⟨hKc, ?_⟩, ?_, ht2, ?_⟩
  · intro k q hq
    match k, hq with
    | 0, hq => cases hq; exact ⟨hI1, hI2⟩
    | 1, hq => cases hq; exact ⟨hB1, hB2⟩
    | 2, hq => cases hq; exact ⟨hZ1, hZ2⟩
    | k + 3, hq => simp [gtys] at hq
  · exact va_Zref (hts _ lays_steps) (hts (.initialized "GameTeller$Board") (by decide +kernel)) ht1 hA
  · obtain ⟨scr, h1, h2, h3, h4, h5⟩ := hX
    exact ⟨scr, h1, h2, h3, by rw [h4]; exact Nat.le_refl _, by rw [h4]; rfl, h5, hA b hbl⟩
set_option maxHeartbeats 4000000 in
/-- the law, once the lifted functions answer 1 -/
theorem whole_of {p : Program} {e : Env} {s : State} {m : MethodId} {below : List Frame} {meth : Method} {c : Code} (l : Launch) {b L : Nat} {xs : Nat → Int32} (C0 : lw_At p s m meth c b L xs) (hp : ∃ r0 r1 : gS, f_X9_init_tail s00 = some r0 ∧ f_L_law_tail L xs gφ r0 0 = some (1, r1)) : W p l e room_1 s m #[Value.ref b] below meth c s.heap [] 0 0 (lw_Z below #[Value.ref b] s) (entryFrame m ([Value.ref b] : List Value).toArray 4) := by
  obtain ⟨hx, hb, hr, hml, hown, hts, hX, hbl, hlocks, hgv⟩ := C0
  obtain ⟨r0, r1, h0, h1⟩ := hp
  obtain ⟨G, hG1, hG2, hG3, hG4, hF⟩ := g_world hts hX hbl hgv
  have hl := lv_entry ([.ref b]) (n := 4) (Nat.le_of_ble_eq_true rfl)
  rw [lg_entry_eq]
  refine law_go meth.name L xs r0 h0 (1, r1) h1 G ⟨hG3, hG4⟩ p l e room_1 s m #[Value.ref b] below meth c _ ⟨hx, hb, hml, hown, g_words hts, hF, by decide, by decide, by decide, by decide, by rw [hG1]; exact Nat.le_refl _, rfl, hr, hlocks⟩ ?_ s.heap [] _ ⟨by rw [hG1]; rfl, by decide, fun k q h => by simp [gw] at h⟩ va_S.rf ⟨hl.1, hl.2.1, ?_⟩
  · intro r9 w9 pc9 H locs la hq hP hS hfin
    obtain ⟨rfl, -⟩ := hq
    refine va_forget (fun q hq => by
      have h9 := hS.2.2 q hq
      unfold gA at h9
      rw [hG1] at h9
      exact h9) ?_
    exact lw_ret hx hb hr hlocks hfin.1
  · intro i v hi
    match i, hi with
    | 0, hi =>
      cases hi
      refine ⟨?_, rfl⟩
      have h9 := hl.2.2 (0, .ref b) (by simp [lv_args])
      have e9 : gv G (.ref 1001) = .ref b := by
        show Value.ref (gad G 1001) = _
        rw [gad_X, hG2]
      rw [e9]
      exact h9
    | 1, hi => cases hi
    | 2, hi => cases hi
    | 3, hi => cases hi
    | k + 4, hi => simp at hi
