def gT : List Cond := lw_tbl.filter goodWord
theorem gT_in {x : Cond} (h : x ∈ lw_tbl) (hg : goodWord x = true) : x ∈ gT := List.mem_filter.mpr ⟨h, hg⟩
/-! THE PLAIN MACHINE: worlds are lists of cells by number; a cell of number i lies at the address base + i.
   1000 is the table STEPS, 1001 the script; nobody writes these. Go: from here the method comes to an end that Q tells. Cal: a call. -/
abbrev gCl : List vw_C := [(RX0, TX0, 7), (RX1, TX1, 7), (RX2, TX2, 8), (RX3, TX3, 4), (RX4, TX4, 4), (RX5, TX5, 1), (RX6, TX6, 6), (RX7, TX7, 2), (RX8, TX8, 8), (RX9, TX9, 28)]
abbrev gX : Type := va_G × (Nat → ClassId) × Nat × Nat × Nat × Nat × (Nat → Int32)
def gD (G : gX) : va_G := G.1
def gKa (G : gX) : Nat → ClassId := G.2.1
def gB (G : gX) : Nat := G.2.2.1
def gaS (G : gX) : Nat := G.2.2.2.1
def gaX (G : gX) : Nat := G.2.2.2.2.1
def gL (G : gX) : Nat := G.2.2.2.2.2.1
def gxs (G : gX) : Nat → Int32 := G.2.2.2.2.2.2
def gad (G : gX) (i : Nat) : Nat := if i < 1000 then gB G + i else if i = 1000 then gaS G else gaX G
def gv (G : gX) (v : Value) : Value := match v with
  | .ref i => .ref (gad G i)
  | v => v
def ge (G : gX) (x : va_E) : va_E := match x with
  | .inl a => .inl (gKa G a.1, a.2)
  | .inr o => .inr (o.1, o.2.map (gv G))
def gw (G : gX) (w : List va_E) : va_W := w.mapIdx (fun i x => (gB G + i, ge G x))
abbrev gtys (G : gX) : List (ClassId × FieldType) := [(gKa G 0, .int), (gKa G 1, .byte), (gKa G 2, .boolean)]
def gA (G : gX) : Nat → Prop := fun q => gB G ≤ q
def gSteps (j : Nat) : Int32 := match j with
  | 0 => 1
  | 1 => 4
  | 2 => 5
  | _ => 6
def gFix (G : gX) (U : State) (H : Heap) : Prop := va_K (gD G) gCl (gtys G) U ∧ va_Z RX0 "STEPS" "[I" (.ref (gaS G)) (gA G) U H ∧ va_T .int (gaS G) 4 (fun j => .int (gSteps j)) (gA G) U H ∧ va_T .int (gaX G) (gL G) (fun j => .int (gxs G j)) (gA G) U H
def gP (G : gX) (w : List va_E) (H : Heap) : Prop := H.size = gB G + w.length ∧ w.length ≤ 1000 ∧ va_P (gD G) gCl (gw G w) H
def GW (G : gX) (w : List va_E) (U : State) : Prop := gFix G U U.heap ∧ gP G w U.heap
theorem gFix.moved {G : gX} {u U : State} {H : Heap} (hvm : u.vm.Alike U.vm) (h : gFix G u H) : gFix G U H := ⟨va_K.moved hvm h.1, h.2.1.moved hvm, h.2.2.1.moved hvm, h.2.2.2.moved hvm⟩
theorem gFix.kept {G : gX} {U : State} {H H1 : Heap} (h : gFix G U H) (hq : ∀ a : Nat, a < H.size → ¬ gA G a → H1[a]? = H[a]?) : gFix G U H1 := ⟨h.1, h.2.1.kept hq, h.2.2.1.kept hq, h.2.2.2.kept hq⟩
theorem gw_len (G : gX) (w : List va_E) : (gw G w).length = w.length := by simp [gw]
theorem gw_get (G : gX) (w : List va_E) (i : Nat) : (gw G w)[i]? = (w[i]?).map (fun x => (gB G + i, ge G x)) := by simp [gw]
theorem gw_at {G : gX} {w : List va_E} {i : Nat} {x : va_E} (h : w[i]? = some x) : (gw G w)[i]? = some (gB G + i, ge G x) := by rw [gw_get, h]; rfl
theorem gw_set (G : gX) (w : List va_E) (i : Nat) (x : va_E) : (gw G w).set i (gB G + i, ge G x) = gw G (w.set i x) := by
  apply List.ext_getElem?
  intro j
  rw [List.getElem?_set, gw_get, gw_get, List.getElem?_set, gw_len]
  by_cases h : i = j
  · subst h
    by_cases h2 : i < w.length
    · simp [h2]
    · simp [h2]
  · simp [h]
theorem gw_app (G : gX) (w : List va_E) (x : va_E) : gw G w ++ [(gB G + w.length, ge G x)] = gw G (w ++ [x]) := by
  apply List.ext_getElem?
  intro j
  rw [gw_get]
  rcases Nat.lt_trichotomy j w.length with h | h | h
  · rw [List.getElem?_append_left (by rw [gw_len]; exact h), List.getElem?_append_left h, gw_get]
  · subst h
    rw [List.getElem?_append_right (by rw [gw_len]; exact Nat.le_refl _), List.getElem?_append_right (Nat.le_refl _), gw_len]
    simp
  · rw [List.getElem?_append_right (by rw [gw_len]; omega), List.getElem?_append_right (by omega), gw_len]
    have hz : 1 ≤ j - w.length := by omega
    rw [List.getElem?_eq_none (by simpa using hz), List.getElem?_eq_none (by simpa using hz)]
    rfl
theorem g_D (G : gX) (w : List va_E) : va_D (gA G) (gw G w) := by
  refine ⟨fun i j p q hp hq he => ?_, fun k q hk => ?_⟩
  · rw [gw_get] at hp hq
    cases h1 : w[i]? with
    | none => rw [h1] at hp; cases hp
    | some x =>
      cases h2 : w[j]? with
      | none => rw [h2] at hq; cases hq
      | some y =>
        rw [h1] at hp
        rw [h2] at hq
        cases hp
        cases hq
        simp at he
        exact he
  · rw [gw_get] at hk
    cases h1 : w[k]? with
    | none => rw [h1] at hk; cases hk
    | some x =>
      rw [h1] at hk
      cases hk
      exact Nat.le_add_right _ _
theorem gad_lt {G : gX} {w : List va_E} {i : Nat} {x : va_E} (h : w[i]? = some x) (hn : w.length ≤ 1000) : gad G i = gB G + i := by
  have h1 := (List.getElem?_eq_some_iff.mp h).1
  unfold gad
  rw [if_pos (by omega)]
/-- the slots of a frame -/
def gHas (G : gX) (nL : Nat) (ls : List (Option Value)) (la : Array Slot) : Prop := la.size = nL ∧ lv_wf la ∧ (∀ (i : Nat) (v : Value), ls[i]? = some (some v) → la[i]? = some (.val (gv G v)) ∧ v.category = 1)
def gas (G : gX) (ls : List (Option Value)) : List (Nat × Value) := (List.range ls.length).filterMap (fun i => match ls[i]? with
  | some (some v) => some (i, gv G v)
  | _ => none)
theorem gas_in {G : gX} {ls : List (Option Value)} {q : Nat × Value} (h : q ∈ gas G ls) : ∃ v, ls[q.1]? = some (some v) ∧ q.2 = gv G v := by
  obtain ⟨i, -, hi⟩ := List.mem_filterMap.mp h
  cases h1 : ls[i]? with
  | none => rw [h1] at hi; cases hi
  | some o =>
    cases o with
    | none => rw [h1] at hi; cases hi
    | some v =>
      rw [h1] at hi
      cases hi
      exact ⟨v, h1, rfl⟩
theorem gas_mem {G : gX} {ls : List (Option Value)} {i : Nat} {v : Value} (h : ls[i]? = some (some v)) : (i, gv G v) ∈ gas G ls := by
  refine List.mem_filterMap.mpr ⟨i, List.mem_range.mpr (List.getElem?_eq_some_iff.mp h).1, ?_⟩
  rw [h]
theorem gHas.lv {G : gX} {nL : Nat} {ls : List (Option Value)} {la : Array Slot} (h : gHas G nL ls la) : lv_has la nL (gas G ls) := by
  refine ⟨h.1, h.2.1, fun q hq => ?_⟩
  obtain ⟨v, h1, h2⟩ := gas_in hq
  rw [h2]
  exact (h.2.2 _ _ h1).1
theorem gv_cat (G : gX) (v : Value) : (gv G v).category = v.category := by cases v <;> rfl
theorem gHas.set {G : gX} {nL : Nat} {ls : List (Option Value)} {la la' : Array Slot} {i : Nat} {v : Value} (h : gHas G nL ls la) (hv : v.category = 1) (h' : lv_has la' nL ((i, gv G v) :: (gas G ls).filter (fun q => !(q.1 == i) && !(q.1 + 1 == i && q.2.category == 2)))) : gHas G nL (ls.set i (some v)) la' := by
  refine ⟨h'.1, h'.2.1, fun j x hj => ?_⟩
  rw [List.getElem?_set] at hj
  by_cases hji : i = j
  · subst hji
    rw [if_pos rfl] at hj
    by_cases hl : i < ls.length
    · rw [if_pos hl] at hj
      cases hj
      exact ⟨h'.2.2 _ List.mem_cons_self, hv⟩
    · rw [if_neg hl] at hj
      cases hj
  · rw [if_neg hji] at hj
    obtain ⟨h1, h2⟩ := h.2.2 j x hj
    refine ⟨h'.2.2 (j, gv G x) (List.mem_cons_of_mem _ (List.mem_filter.mpr ⟨gas_mem hj, ?_⟩)), h2⟩
    have e : ((gv G x).category == 2) = false := by rw [gv_cat, h2]; rfl
    show (!(j == i) && !(j + 1 == i && (gv G x).category == 2)) = true
    rw [e]
    simp
    omega
/-- a call -/
abbrev gM : Type := MethodName × ByteArray × Nat × Option FieldType
def gQ (G : gX) (r : Option Value) (w' : List va_E) : Array Value → State → Outcome → State → Prop := fun _ st o t => o = .returned (r.map (gv G)) ∧ GW G w' t ∧ va_F (gA G) st t
def gR (d mc ms : Nat) : Room := { frames := d, cells := mc, slots := ms, locals := 40 * d }
def Cal (d : Nat) (M : gM) (args : List Value) (w : List va_E) (mc ms : Nat) (r : Option Value) (w' : List va_E) : Prop :=
  ∀ (G : gX) (l : Launch), Met l M.1 (.code M.1 M.2.1 M.2.2.1 M.2.2.2 :: gT) (gR d mc ms) (va_Pc (args.map (gv G)) (GW G w)) (gQ G r w') mc ms (gA G)
/-- what stands fast within a method -/
def gAt (G : gX) (y : MethodName) (cc : ByteArray) (nL : Nat) (rt : Option FieldType) (d mc ms : Nat) (p : Program) (R : Room) (s : State) (m : MethodId) (args : Array Value) (meth : Method) (c : Code) : Prop :=
  p.tables.exec = Jvm.exec ∧ c.code = cc ∧ c.maxLocals = nL ∧ s.vm.findClass y.cls = some m.cls ∧ (∀ w ∈ gT, w.before args s = true) ∧ gFix G s s.heap ∧ d ≤ R.frames ∧ 40 * d ≤ R.locals ∧ mc ≤ R.cells ∧ ms ≤ R.slots ∧ gB G ≤ s.heap.size ∧ meth.name = y.name ∧ meth.sig.returnType = rt ∧ meth.locks = false
/-- how a method's end is met -/
def gFin (cc : ByteArray) (rt : Option FieldType) (r : Option Value) (pc : Nat) : Prop := match r with
  | none => decode cc pc = .ok (.return_, 1) ∧ rt = none
  | some (.int v) => decode cc pc = .ok (.ireturn, 1) ∧ ∃ ty, rt = some ty ∧ narrow ty (.int v) = .int v
  | _ => False
def Go (P : gX → Prop) (y : MethodName) (cc : ByteArray) (nL : Nat) (rt : Option FieldType) (d mc ms : Nat) (Q : Option Value → List va_E → Prop) (k n : Nat) (w : List va_E) (pc : Nat) (ls : List (Option Value)) (st : List Value) : Prop :=
  ∀ (G : gX), P G → ∀ (p : Program) (l : Launch) (e : Env) (R : Room) (s : State) (m : MethodId) (args : Array Value) (below : List Frame) (meth : Method) (c : Code) (Z : State → Prop),
    gAt G y cc nL rt d mc ms p R s m args meth c →
    (∀ (r : Option Value) (w' : List va_E) (pc' : Nat) (H : Heap) (locs : List Loc) (la : Array Slot), Q r w' → gP G w' H → va_S (gA G) s.heap H locs → gFin cc rt r pc' → W p l e R s m args below meth c H locs mc ms Z (F0 m pc' la (r.map (gv G)).toList)) →
    ∀ (H : Heap) (locs : List Loc) (la : Array Slot), gP G w H → va_S (gA G) s.heap H locs → gHas G nL ls la → W p l e R s m args below meth c H locs k n Z (F0 m pc la (st.map (gv G)))
/-- for any script -/
def gTr : gX → Prop := fun _ => True
theorem g_kept {G : gX} {s : State} {H : Heap} {locs : List Loc} (h : gFix G s s.heap) (hS : va_S (gA G) s.heap H locs) : gFix G s H := h.kept (fun a h1 h2 => hS.2.1 a h1 h2)
set_option maxHeartbeats 4000000 in
theorem Cal.of {d : Nat} {M : gM} {args : List Value} {w : List va_E} {mc ms : Nat} {r : Option Value} {w' : List va_E} (hy : plainName M.1.cls = true) (ha : ∀ v ∈ args, v.category = 1) (hn : args.length ≤ M.2.2.1) (h : Go gTr M.1 M.2.1 M.2.2.1 M.2.2.2 d mc ms (fun r' w'' => r' = r ∧ w'' = w') 0 0 w 0 (args.map some ++ List.replicate (M.2.2.1 - args.length) none) []) : Cal d M args w mc ms r w' := by
  intro G l
  refine Met.ofW (cc := M.2.1) (maxL := M.2.2.1) (ret := M.2.2.2) hy rfl ?_
  intro p e s m as below meth c s₁ B hml hv
  obtain ⟨rfl, hF, hP⟩ := hv
  have hts := atoms_spec (ws := .code M.1 M.2.1 M.2.2.1 M.2.2.2 :: gT) B.pre
  have hlocks := B.notSynchronized
  have hcat : ∀ v ∈ args.map (gv G), v.category = 1 := by
    intro v hv
    obtain ⟨x, h1, rfl⟩ := List.mem_map.mp hv
    rw [gv_cat]
    exact ha x h1
  have hsl : lg_sl (args.map (gv G)) = (args.map (gv G)).map (fun v => Slot.val v) := by
    have key : ∀ l : List Value, (∀ v ∈ l, v.category = 1) → lg_sl l = l.map (fun v => Slot.val v) := by
      intro l hl
      induction l with
      | nil => rfl
      | cons a t ih =>
        have h1 : a.category = 1 := hl a List.mem_cons_self
        show (if a.category = 2 then [Slot.val a, .second] else [.val a]) ++ lg_sl t = _
        rw [if_neg (by omega), ih (fun v hv => hl v (List.mem_cons_of_mem _ hv))]
        rfl
    exact key _ hcat
  have hle : (lg_sl (args.map (gv G))).length ≤ M.2.2.1 := by rw [hsl]; simpa using hn
  have hl := lv_entry (args.map (gv G)) (n := M.2.2.1) hle
  rw [lg_entry_eq]
  refine h G trivial p l e _ s m _ below meth c _ ⟨B.exec, B.bytes, hml, findClass_of_methodNamed B.named, fun x hx => hts x (List.mem_cons_of_mem _ hx), hF, Nat.le_refl _, Nat.le_refl _, Nat.le_refl _, Nat.le_refl _, by rw [hP.1]; exact Nat.le_add_right _ _, (name_of_methodNamed B.named B.method).1, B.returns, hlocks⟩ ?_ s.heap [] _ hP va_S.rf ⟨hl.1, hl.2.1, ?_⟩
  · intro r' u pc' H locs la hq hPw hS hfin
    obtain ⟨rfl, rfl⟩ := hq
    have hr := B.returns
    match r', hfin with
    | none, hfin =>
      refine W.vret B.exec B.bytes (hr.trans hfin.2) (fun t ht hW => ⟨rfl, ⟨?_, by rw [ht]; exact hPw⟩, hS.F ht⟩) hS.2.2 hfin.1
      rw [ht]
      exact (g_kept hF hS).moved hW.alike
    | some (.int v), hfin =>
      obtain ⟨hd, ty, h1, h2⟩ := hfin
      refine W.zret B.exec B.bytes (hr.trans h1) h2 (fun t ht hW => ⟨rfl, ⟨?_, by rw [ht]; exact hPw⟩, hS.F ht⟩) hS.2.2 hd
      rw [ht]
      exact (g_kept hF hS).moved hW.alike
  · intro i v hi
    have hi2 : args[i]? = some v := by
      rcases Nat.lt_or_ge i args.length with q | q
      · rw [List.getElem?_append_left (by simpa using q), List.getElem?_map] at hi
        cases h3 : args[i]? with
        | none => rw [h3] at hi; cases hi
        | some x => rw [h3] at hi; cases hi; rfl
      · rw [List.getElem?_append_right (by simpa using q)] at hi
        rw [List.getElem?_replicate] at hi
        split at hi <;> cases hi
    refine ⟨?_, ha v (List.mem_of_getElem? hi2)⟩
    rw [hsl]
    simp only [List.getElem?_toArray]
    rw [List.getElem?_append_left (by simpa using (List.getElem?_eq_some_iff.mp hi2).1)]
    simp [hi2]
