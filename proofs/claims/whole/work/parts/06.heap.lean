section GoHeap
variable {P : gX → Prop} {y : MethodName} {cc : ByteArray} {nL : Nat} {rt : Option FieldType} {d mc ms : Nat} {Q : Option Value → List va_E → Prop} {k n : Nat} {w : List va_E} {pc q : Nat} {ls : List (Option Value)} {st : List Value}
/-- a field: by the number of its link in y's own file, the number of its kind of cell, its place -/
def gFld (own : String) (idx ci f : Nat) (ty : FieldType) (fin : Bool) : Prop := ∃ (C : String) (T : u_T) (N : Nat) (ty0 : Nat → FieldType), gCl[ci]? = some (C, T, N) ∧ (∀ x ∈ u_ws C T N, x ∈ gT) ∧ f < N ∧ Cond.fieldLink own idx (T f).1 (T f).2.1 (T f).2.2.1 ∈ gT ∧ (∀ j, j < N → parseFieldDescriptor (T j).2.2.1 = some (ty0 j)) ∧ (∀ a, a < N → ∀ b, b < N → a ≠ b → (T a).2.1 ≠ (T b).2.1) ∧ ty0 f = ty ∧ (T f).2.2.2 = fin ∧ (fin = true → (T f).1 = own)
theorem ge_obj (G : gX) (ci : Nat) (fs : List Value) : ge G (.inr (ci, fs)) = .inr (ci, fs.map (gv G)) := rfl
theorem ge_arr (G : gX) (a : Nat) (x : vp_A) : ge G (.inl (a, x)) = .inl (gKa G a, x) := rfl
theorem go_get {i idx ci f : Nat} {ty : FieldType} {fin : Bool} {fs : List Value} {v : Value} (hd : decode cc pc = .ok (.getfield idx, 3)) (hF : gFld y.cls idx ci f ty fin) (he : w[i]? = some (.inr (ci, fs))) (hv : fs[f]? = some v) (hq : pc + 3 = q) (h : Go P y cc nL rt d mc ms Q k n w q ls (v :: st)) : Go P y cc nL rt d mc ms Q k n w pc ls (.ref i :: st) := by
  subst hq
  intro G hg p l e R s m args below meth c Z A E H locs la hP hS hl
  obtain ⟨C, T, N, ty0, h1, h2, h3, h4, -⟩ := hF
  show W _ _ _ _ _ _ _ _ _ _ _ _ _ _ _ (F0 m pc la (.ref (gad G i) :: st.map (gv G)))
  rw [gad_lt he hP.2.1]
  exact va_get (D := gD G) (ci := ci) (v := gv G v) (C := C) (T := T) (N := N) A.1 A.2.1 A.2.2.2.2.1 h2 A.2.2.2.1 A.2.2.2.2.2.1.1 hP.2.2 i (gw_at he) h1 f h3 (A.2.2.2.2.1 _ h4) (fun _ h9 => h9) (by rw [List.getElem?_map, hv]; rfl) hd (h G hg p l e R s m args below meth c Z A E H locs la hP hS hl)
theorem g_put1 {G : gX} {ci f i : Nat} {fs : List Value} {v : Value} {C : String} {T : u_T} {N : Nat} {H H' : Heap} {cell : Cell} (hP : gP G w H) (he : w[i]? = some (.inr (ci, fs))) (h1 : gCl[ci]? = some (C, T, N)) (h3 : f < N) (hf : f < fs.length)
    (hap : ∀ x y, x < N → y < N → x ≠ y → ((gD G).2 ci) x ≠ ((gD G).2 ci) y) (q2 : cell.cls = (gD G).1 ci) (q3 : cell.vm = .none) (q4 : ∀ j, j < N → cell.slots[(gD G).2 ci j]? = some (vp_V (fs.map (gv G)) j)) (e1 : H'[gB G + i]? = some (cell.setSlot ((gD G).2 ci f) (gv G v))) (e2 : H'.size = H.size) (e3 : ∀ q, q ≠ gB G + i → H'[q]? = H[q]?) : gP G (w.set i (.inr (ci, fs.set f v))) H' := by
  have hP1 := hP.2.2.set (g_D G w) (gw_at he) (e := .inr (ci, (fs.map (gv G)).set f (gv G v))) ⟨_, h1, t_OB.to (V := updV (vp_V (fs.map (gv G))) f (gv G v)) ⟨_, e1, q2, q3, t_set q4 hap h3 (gv G v)⟩ (fun j _ => vp_updV_set (by simpa using hf) (gv G v) j)⟩ e3
  have e4 : ((gw G w).set i (gB G + i, .inr (ci, (fs.map (gv G)).set f (gv G v)))) = gw G (w.set i (.inr (ci, fs.set f v))) := by
    rw [← gw_set, ge_obj, List.map_set]
  rw [e4] at hP1
  exact ⟨by rw [List.length_set, e2]; exact hP.1, by rw [List.length_set]; exact hP.2.1, hP1⟩
theorem go_put {i idx ci f : Nat} {ty : FieldType} {fs : List Value} {v : Value} {w2 : List va_E} (hd : decode cc pc = .ok (.putfield idx, 3)) (hF : gFld y.cls idx ci f ty false) (he : w[i]? = some (.inr (ci, fs))) (hf : f < fs.length) (hnar : ∀ G, narrow ty (gv G v) = gv G v) (hfit : ∀ G, fits ty (gv G v) = true) (hw : w.set i (.inr (ci, fs.set f v)) = w2) (hq : pc + 3 = q) (h : Go P y cc nL rt d mc ms Q k n w2 q ls st) : Go P y cc nL rt d mc ms Q k n w pc ls (v :: .ref i :: st) := by
  subst hq
  subst hw
  intro G hg p l e R s m args below meth c Z A E H locs la hP hS hl
  obtain ⟨C, T, N, ty0, h1, h2, h3, h4, h5, h6, h7, h8, -⟩ := hF
  show W _ _ _ _ _ _ _ _ _ _ _ _ _ _ _ (F0 m pc la (gv G v :: .ref (gad G i) :: st.map (gv G)))
  rw [gad_lt he hP.2.1]
  have hK := A.2.2.2.2.2.1.1
  have hts := A.2.2.2.2.1
  have hap := va_apart (own := y.cls) hts h2 ty0 h5 h6 hK h1
  obtain ⟨r, g1, cell, q1, q2, q3, q4⟩ := hP.2.2 i _ (gw_at he)
  have hr : r = (C, T, N) := Option.some.inj (g1.symm.trans h1)
  subst hr
  obtain ⟨hSl, hfc, kC, hkC, hkind⟩ := hK.1 ci _ h1
  obtain ⟨cf, kf, fi, fd, hi, hsl⟩ := hSl f h3
  have hlay := hts _ (h2 _ (u_in_lay h3))
  unfold u_lay at hlay
  rw [if_neg (by rw [h8]; decide)] at hlay
  have hst := (u_facts hfc hkC (u_lays hts h2 h3) hi).1
  have h9 := u_store hfc hkC hkind hlay hi (by rw [h5 f h3, h7]) (hnar G) (hfit G)
  refine W.putK A.1 A.2.1 (f := fd) ⟨A.2.2.2.1, hts _ h4, ⟨_, _, _, hi⟩, hst⟩ (by rw [q2]; exact h9) q1 q3 (by rw [hsl]; exact k2_hasslot (q4 f h3)) rfl rfl hd fun H' e1 e2 e3 => ?_
  rw [hsl] at e1 ⊢
  exact h G hg p l e R s m args below meth c Z A E H' _ la (g_put1 hP he h1 h3 hf hap q2 q3 q4 e1 e2 e3) (hS.put e2 e3 (Nat.le_add_right _ _)) hl
theorem go_putF {i idx ci f : Nat} {ty : FieldType} {fs : List Value} {v : Value} {w2 : List va_E} (hd : decode cc pc = .ok (.putfield idx, 3)) (hin : y.name = "<init>") (hF : gFld y.cls idx ci f ty true) (he : w[i]? = some (.inr (ci, fs))) (hf : f < fs.length) (hnar : ∀ G, narrow ty (gv G v) = gv G v) (hfit : ∀ G, fits ty (gv G v) = true) (hw : w.set i (.inr (ci, fs.set f v)) = w2) (hq : pc + 3 = q) (h : Go P y cc nL rt d mc ms Q k n w2 q ls st) : Go P y cc nL rt d mc ms Q k n w pc ls (v :: .ref i :: st) := by
  subst hq
  subst hw
  intro G hg p l e R s m args below meth c Z A E H locs la hP hS hl
  obtain ⟨C, T, N, ty0, h1, h2, h3, h4, h5, h6, h7, h8, h10⟩ := hF
  show W _ _ _ _ _ _ _ _ _ _ _ _ _ _ _ (F0 m pc la (gv G v :: .ref (gad G i) :: st.map (gv G)))
  rw [gad_lt he hP.2.1]
  have hK := A.2.2.2.2.2.1.1
  have hts := A.2.2.2.2.1
  have hown := A.2.2.2.1
  have hap := va_apart (own := y.cls) hts h2 ty0 h5 h6 hK h1
  obtain ⟨r, g1, cell, q1, q2, q3, q4⟩ := hP.2.2 i _ (gw_at he)
  have hr : r = (C, T, N) := Option.some.inj (g1.symm.trans h1)
  subst hr
  obtain ⟨hSl, hfc, kC, hkC, hkind⟩ := hK.1 ci _ h1
  obtain ⟨cf, kf, fi, fd, hi, hsl⟩ := hSl f h3
  have hlay := hts _ (h2 _ (u_in_lay h3))
  unfold u_lay at hlay
  rw [if_pos h8] at hlay
  have hst := (u_facts hfc hkC (u_lays hts h2 h3) hi).1
  have hcf : m.cls = cf := by
    obtain ⟨_, _, c', _, _, _, -, -, hf', -, -, -, hown2, -⟩ := Cond.laysFinal_spec hlay
    have e1 : c' = cf := by have := hi.symm.trans hf'; simp at this; exact this.1.symm
    rw [h10 rfl] at hown2
    rw [← e1]; exact Option.some.inj (hown.symm.trans hown2)
  have h9 := u_fits hfc hkC hkind (Or.inr hlay) hi (by rw [h5 f h3, h7]) (hnar G) (hfit G)
  refine W.putFinK A.1 A.2.1 hown (hts _ h4) hi hst hcf (A.2.2.2.2.2.2.2.2.2.2.2.1.trans hin) (by rw [q2]; exact h9) q1 q3 (by rw [hsl]; exact k2_hasslot (q4 f h3)) rfl rfl hd fun H' e1 e2 e3 => ?_
  rw [hsl] at e1 ⊢
  exact h G hg p l e R s m args below meth c Z A E H' _ la (g_put1 hP he h1 h3 hf hap q2 q3 q4 e1 e2 e3) (hS.put e2 e3 (Nat.le_add_right _ _)) hl
theorem go_iald {i N : Nat} {f : Nat → Int32} {x : Int32} (hd : decode cc pc = .ok (.iaload, 1)) (he : w[i]? = some (.inl (0, N, .inl f))) (hx : vp_in x N) (hq : pc + 1 = q) (h : Go P y cc nL rt d mc ms Q k n w q ls (.int (f x.toNatClampNeg) :: st)) : Go P y cc nL rt d mc ms Q k n w pc ls (.int x :: .ref i :: st) := by
  subst hq
  intro G hg p l e R s m args below meth c Z A E H locs la hP hS hl
  show W _ _ _ _ _ _ _ _ _ _ _ _ _ _ _ (F0 m pc la (.int x :: .ref (gad G i) :: st.map (gv G)))
  rw [gad_lt he hP.2.1]
  exact va_iald (D := gD G) A.1 A.2.1 A.2.2.2.2.2.1.1 hP.2.2 i 0 (gw_at he) rfl hx hd (h G hg p l e R s m args below meth c Z A E H locs la hP hS hl)
theorem go_bald {i N : Nat} {f : Nat → Int32} {x : Int32} (hd : decode cc pc = .ok (.baload, 1)) (he : w[i]? = some (.inl (1, N, .inl f))) (hx : vp_in x N) (hq : pc + 1 = q) (h : Go P y cc nL rt d mc ms Q k n w q ls (.int (f x.toNatClampNeg) :: st)) : Go P y cc nL rt d mc ms Q k n w pc ls (.int x :: .ref i :: st) := by
  subst hq
  intro G hg p l e R s m args below meth c Z A E H locs la hP hS hl
  show W _ _ _ _ _ _ _ _ _ _ _ _ _ _ _ (F0 m pc la (.int x :: .ref (gad G i) :: st.map (gv G)))
  rw [gad_lt he hP.2.1]
  exact va_bald (D := gD G) A.1 A.2.1 A.2.2.2.2.2.1.1 hP.2.2 i 1 (gw_at he) rfl hx hd (h G hg p l e R s m args below meth c Z A E H locs la hP hS hl)
theorem go_zald {i N : Nat} {f : Nat → Int32} {x : Int32} (hd : decode cc pc = .ok (.baload, 1)) (he : w[i]? = some (.inl (2, N, .inl f))) (hx : vp_in x N) (hq : pc + 1 = q) (h : Go P y cc nL rt d mc ms Q k n w q ls (.int (f x.toNatClampNeg) :: st)) : Go P y cc nL rt d mc ms Q k n w pc ls (.int x :: .ref i :: st) := by
  subst hq
  intro G hg p l e R s m args below meth c Z A E H locs la hP hS hl
  show W _ _ _ _ _ _ _ _ _ _ _ _ _ _ _ (F0 m pc la (.int x :: .ref (gad G i) :: st.map (gv G)))
  rw [gad_lt he hP.2.1]
  exact va_zald (D := gD G) A.1 A.2.1 A.2.2.2.2.2.1.1 hP.2.2 i 2 (gw_at he) rfl hx hd (h G hg p l e R s m args below meth c Z A E H locs la hP hS hl)
theorem go_alen {i a : Nat} {x : vp_A} {v : Int32} (hd : decode cc pc = .ok (.arraylength, 1)) (ha : a < 3) (he : w[i]? = some (.inl (a, x))) (hv : Int32.ofNat x.1 = v) (hq : pc + 1 = q) (h : Go P y cc nL rt d mc ms Q k n w q ls (.int v :: st)) : Go P y cc nL rt d mc ms Q k n w pc ls (.ref i :: st) := by
  subst hq
  intro G hg p l e R s m args below meth c Z A E H locs la hP hS hl
  show W _ _ _ _ _ _ _ _ _ _ _ _ _ _ _ (F0 m pc la (.ref (gad G i) :: st.map (gv G)))
  rw [gad_lt he hP.2.1]
  rcases (show a = 0 ∨ a = 1 ∨ a = 2 by omega) with rfl | rfl | rfl
  · exact va_alen (D := gD G) A.1 A.2.1 A.2.2.2.2.2.1.1 hP.2.2 i 0 (gw_at he) rfl hv hd (h G hg p l e R s m args below meth c Z A E H locs la hP hS hl)
  · exact va_alen (D := gD G) A.1 A.2.1 A.2.2.2.2.2.1.1 hP.2.2 i 1 (gw_at he) rfl hv hd (h G hg p l e R s m args below meth c Z A E H locs la hP hS hl)
  · exact va_alen (D := gD G) A.1 A.2.1 A.2.2.2.2.2.1.1 hP.2.2 i 2 (gw_at he) rfl hv hd (h G hg p l e R s m args below meth c Z A E H locs la hP hS hl)
theorem g_ast1 {G : gX} {i a N j : Nat} {f : Nat → Int32} {v : Int32} {H H' : Heap} (hP : gP G w H) (he : w[i]? = some (.inl (a, N, .inl f))) (e1 : H'[gB G + i]? = some ((vp_cell (gKa G a) (N, .inl f)).setSlot j (.int v))) (e2 : H'.size = H.size) (e3 : ∀ q, q ≠ gB G + i → H'[q]? = H[q]?) : gP G (w.set i (.inl (a, N, .inl (upd f j v)))) H' := by
  have hP1 := hP.2.2.set (g_D G w) (gw_at he) (e := .inl (gKa G a, N, .inl (upd f j v))) (by
    show H'[gB G + i]? = some (vp_cell _ _)
    rw [e1]
    rw [vp_cell_i, vp_cell_i, arrV_store]
    congr 2
    funext z
    by_cases hz : z = j
    · subst hz
      simp [updV, upd]
    · simp [updV, upd, hz]) e3
  have e4 : ((gw G w).set i (gB G + i, .inl (gKa G a, N, .inl (upd f j v)))) = gw G (w.set i (.inl (a, N, .inl (upd f j v)))) := by
    rw [← gw_set, ge_arr]
  rw [e4] at hP1
  exact ⟨by rw [List.length_set, e2]; exact hP.1, by rw [List.length_set]; exact hP.2.1, hP1⟩
theorem go_iast {i N : Nat} {f : Nat → Int32} {x v : Int32} {w2 : List va_E} (hd : decode cc pc = .ok (.iastore, 1)) (he : w[i]? = some (.inl (0, N, .inl f))) (hx : vp_in x N) (hw : w.set i (.inl (0, N, .inl (upd f x.toNatClampNeg v))) = w2) (hq : pc + 1 = q) (h : Go P y cc nL rt d mc ms Q k n w2 q ls st) : Go P y cc nL rt d mc ms Q k n w pc ls (.int v :: .int x :: .ref i :: st) := by
  subst hq
  subst hw
  intro G hg p l e R s m args below meth c Z A E H locs la hP hS hl
  show W _ _ _ _ _ _ _ _ _ _ _ _ _ _ _ (F0 m pc la (.int v :: .int x :: .ref (gad G i) :: st.map (gv G)))
  rw [gad_lt he hP.2.1]
  refine W.iast A.1 A.2.1 (hP.2.2 i _ (gw_at he)) ((A.2.2.2.2.2.1.1.2 0 _ rfl).1 N (fun j => .int (f j))) (fun q => by cases q) (by show ¬ (x < 0 ∨ (arrV _ _ _).slots.size ≤ _); rw [arrV_size]; exact hx) rfl rfl hd fun H' e1 e2 e3 => ?_
  exact h G hg p l e R s m args below meth c Z A E H' _ la (g_ast1 hP he e1 e2 e3) (hS.put e2 e3 (Nat.le_add_right _ _)) hl
theorem go_bast {i N : Nat} {f : Nat → Int32} {x v : Int32} {w2 : List va_E} (hd : decode cc pc = .ok (.bastore, 1)) (he : w[i]? = some (.inl (1, N, .inl f))) (hx : vp_in x N) (hw : w.set i (.inl (1, N, .inl (upd f x.toNatClampNeg (v.toInt8.toInt32)))) = w2) (hq : pc + 1 = q) (h : Go P y cc nL rt d mc ms Q k n w2 q ls st) : Go P y cc nL rt d mc ms Q k n w pc ls (.int v :: .int x :: .ref i :: st) := by
  subst hq
  subst hw
  intro G hg p l e R s m args below meth c Z A E H locs la hP hS hl
  show W _ _ _ _ _ _ _ _ _ _ _ _ _ _ _ (F0 m pc la (.int v :: .int x :: .ref (gad G i) :: st.map (gv G)))
  rw [gad_lt he hP.2.1]
  refine W.bast A.1 A.2.1 (hP.2.2 i _ (gw_at he)) ((A.2.2.2.2.2.1.1.2 1 _ rfl).1 N (fun j => .int (f j))) (fun q => by cases q) (by show ¬ (x < 0 ∨ (arrV _ _ _).slots.size ≤ _); rw [arrV_size]; exact hx) rfl rfl hd fun H' e1 e2 e3 => ?_
  exact h G hg p l e R s m args below meth c Z A E H' _ la (g_ast1 hP he e1 e2 e3) (hS.put e2 e3 (Nat.le_add_right _ _)) hl
theorem go_zast {i N : Nat} {f : Nat → Int32} {x v : Int32} {w2 : List va_E} (hd : decode cc pc = .ok (.bastore, 1)) (he : w[i]? = some (.inl (2, N, .inl f))) (hx : vp_in x N) (hw : w.set i (.inl (2, N, .inl (upd f x.toNatClampNeg (v &&& 1)))) = w2) (hq : pc + 1 = q) (h : Go P y cc nL rt d mc ms Q k n w2 q ls st) : Go P y cc nL rt d mc ms Q k n w pc ls (.int v :: .int x :: .ref i :: st) := by
  subst hq
  subst hw
  intro G hg p l e R s m args below meth c Z A E H locs la hP hS hl
  show W _ _ _ _ _ _ _ _ _ _ _ _ _ _ _ (F0 m pc la (.int v :: .int x :: .ref (gad G i) :: st.map (gv G)))
  rw [gad_lt he hP.2.1]
  refine W.zast A.1 A.2.1 (hP.2.2 i _ (gw_at he)) ((A.2.2.2.2.2.1.1.2 2 _ rfl).1 N (fun j => .int (f j))) (fun q => by cases q) (by show ¬ (x < 0 ∨ (arrV _ _ _).slots.size ≤ _); rw [arrV_size]; exact hx) rfl rfl hd fun H' e1 e2 e3 => ?_
  exact h G hg p l e R s m args below meth c Z A E H' _ la (g_ast1 hP he e1 e2 e3) (hS.put e2 e3 (Nat.le_add_right _ _)) hl
theorem gad_S (G : gX) : gad G 1000 = gaS G := by unfold gad; rw [if_neg (by omega), if_pos rfl]
theorem gad_X (G : gX) : gad G 1001 = gaX G := by unfold gad; rw [if_neg (by omega), if_neg (by omega)]
theorem go_sald {x : Int32} (hd : decode cc pc = .ok (.iaload, 1)) (hx : vp_in x 4) (hq : pc + 1 = q) (h : Go P y cc nL rt d mc ms Q k n w q ls (.int (gSteps x.toNatClampNeg) :: st)) : Go P y cc nL rt d mc ms Q k n w pc ls (.int x :: .ref 1000 :: st) := by
  subst hq
  intro G hg p l e R s m args below meth c Z A E H locs la hP hS hl
  show W _ _ _ _ _ _ _ _ _ _ _ _ _ _ _ (F0 m pc la (.int x :: .ref (gad G 1000) :: st.map (gv G)))
  rw [gad_S]
  exact va_ti A.1 A.2.1 A.2.2.2.2.2.1.2.2.1 hS hx rfl hd (h G hg p l e R s m args below meth c Z A E H locs la hP hS hl)
theorem go_slen (hd : decode cc pc = .ok (.arraylength, 1)) (hq : pc + 1 = q) (h : Go P y cc nL rt d mc ms Q k n w q ls (.int 4 :: st)) : Go P y cc nL rt d mc ms Q k n w pc ls (.ref 1000 :: st) := by
  subst hq
  intro G hg p l e R s m args below meth c Z A E H locs la hP hS hl
  show W _ _ _ _ _ _ _ _ _ _ _ _ _ _ _ (F0 m pc la (.ref (gad G 1000) :: st.map (gv G)))
  rw [gad_S]
  exact va_tlen A.1 A.2.1 A.2.2.2.2.2.1.2.2.1 hS rfl hd (h G hg p l e R s m args below meth c Z A E H locs la hP hS hl)
theorem go_steps {idx : Nat} (hd : decode cc pc = .ok (.getstatic idx, 3)) (hl9 : Cond.fieldLink y.cls idx RX0 "STEPS" "[I" ∈ gT) (hq : pc + 3 = q) (h : Go P y cc nL rt d mc ms Q k n w q ls (.ref 1000 :: st)) : Go P y cc nL rt d mc ms Q k n w pc ls st := by
  subst hq
  intro G hg p l e R s m args below meth c Z A E H locs la hP hS hl
  refine va_gets A.1 A.2.1 A.2.2.2.2.2.1.2.1 hS A.2.2.2.1 (A.2.2.2.2.1 _ hl9) (fun _ h9 => h9) hd ?_
  have h2 := (h G hg p l e R s m args below meth c Z A E H locs la hP hS hl)
  rw [List.map_cons] at h2
  show W _ _ _ _ _ _ _ _ _ _ _ _ _ _ _ (F0 m (pc + 3) la (.ref (gaS G) :: st.map (gv G)))
  rw [← gad_S]
  exact h2
/-- calls -/
theorem g_call {p : Program} {l : Launch} {e : Env} {R : Room} {s : State} {m : MethodId} {args : Array Value} {below : List Frame} {meth : Method} {c : Code} {H : Heap} {locs : List Loc} {cells slots mc2 ms2 : Nat} {Z : State → Prop} {G : gX} {r : Option Value} {w2 : List va_E} {a : Array Value} {la : Array Slot} {st0 rest : List Value}
    (hr : va_Run p l e R s m args below meth c H locs cells slots mc2 ms2 (F0 m pc la st0) rest (gQ G r w2 a) (gA G)) (hS : va_S (gA G) s.heap H locs)
    (kk : ∀ (H1 : Heap) (locs1 : List Loc), gP G w2 H1 → va_S (gA G) s.heap H1 locs1 → W p l e R s m args below meth c H1 locs1 (cells + mc2) (slots + ms2) Z (F0 m (pc + 3) la ((r.map (gv G)).toList ++ rest))) : W p l e R s m args below meth c H locs cells slots Z (F0 m pc la st0) := by
  intro T hT X
  obtain ⟨v, st₀, t, T', L, h0, X', hL, e1, e2, ⟨hv, hGW, hz, hk⟩, st9⟩ := hr T hT X
  have hv2 : v = r.map (gv G) := by injection hv
  subst hv2
  rw [h0] at hz hk
  obtain ⟨t2, a1, b1⟩ := kk T'.heap (locs ++ L) (by rw [e1]; exact hGW.2)
    ⟨Nat.le_trans hS.1 (by rw [e1]; exact hz), fun z h1 h2 => by rw [e1, hk z (Nat.lt_of_lt_of_le h1 hS.1) h2]; exact hS.2.1 z h1 h2, fun z hz2 => by
      rcases List.mem_append.mp hz2 with h | h
      · exact hS.2.2 z h
      · exact hL z h⟩ T' rfl X'
  exact ⟨t2, st9 t2 a1, b1⟩
theorem g_blind (G : gX) (as : List Value) (w9 : List va_E) : FrameBlind (va_Pc as (GW G w9)) := fun a U g mk h => ⟨h.1, ⟨gFix.moved (u := U) (U := U.calling g mk a) (Vm.Alike.refl U.vm) h.2.1, h.2.2⟩⟩
theorem g_good {x : Cond} (h : x ∈ gT) : x ∈ gT ∧ ((x.onTables && x.keeps) = true ∨ ∃ ty, x = .arrayClass ty) := ⟨h, good_of_word (List.mem_filter.mp h).2⟩
/-- what the tables say of a call: virtual, static, of a maker -/
def gCV (own : String) (idx np : Nat) (M : gM) : Prop := Cond.methodLink own idx M.1 ∈ gT ∧ Cond.instanceMethod M.1 ∈ gT ∧ Cond.selects M.1.cls M.1 M.1 ∈ gT ∧ Cond.initialized M.1.cls ∈ gT ∧ Cond.code M.1 M.2.1 M.2.2.1 M.2.2.2 ∈ gT ∧ (M.1.cls ≠ "java/lang/invoke/MethodHandle" ∧ M.1.cls ≠ "java/lang/invoke/VarHandle" ∧ (parseMethodDescriptor M.1.desc).map (fun d => d.parameters.length) = some np) ∧ M.2.2.1 ≤ 20
def gCS (own : String) (idx np : Nat) (M : gM) : Prop := Cond.methodLink own idx M.1 ∈ gT ∧ Cond.static M.1 ∈ gT ∧ Cond.initialized M.1.cls ∈ gT ∧ Cond.code M.1 M.2.1 M.2.2.1 M.2.2.2 ∈ gT ∧ (M.1.cls ≠ "java/lang/invoke/MethodHandle" ∧ M.1.cls ≠ "java/lang/invoke/VarHandle" ∧ (parseMethodDescriptor M.1.desc).map (fun d => d.parameters.length) = some np) ∧ M.2.2.1 ≤ 20
def gCI (own : String) (idx np : Nat) (M : gM) : Prop := Cond.methodLink own idx M.1 ∈ gT ∧ Cond.instanceMethod M.1 ∈ gT ∧ Cond.initialized M.1.cls ∈ gT ∧ Cond.code M.1 M.2.1 M.2.2.1 M.2.2.2 ∈ gT ∧ (M.1.cls ≠ "java/lang/invoke/MethodHandle" ∧ M.1.cls ≠ "java/lang/invoke/VarHandle" ∧ (parseMethodDescriptor M.1.desc).map (fun d => d.parameters.length) = some np) ∧ M.2.2.1 ≤ 20 ∧ M.1.name = "<init>" ∧ M.2.2.2 = none
theorem g_room {m : MethodId} {la : Array Slot} {G : gX} {st9 rest : List Value} (h : (rest.map fun v => v.category).sum ≤ 8) : 2 * (F0 m pc la st9).monitorRoom + ((rest.map (gv G)).map fun v => v.category).sum ≤ 8 := by
  refine lv_room ?_
  rw [List.map_map, show ((fun v : Value => v.category) ∘ gv G) = (fun v : Value => v.category) from funext (gv_cat G)]
  exact h
theorem g_mapr (G : gX) (as rest : List Value) (b : Nat) : (as.reverse ++ .ref b :: rest).map (gv G) = (as.map (gv G)).reverse ++ .ref (gad G b) :: rest.map (gv G) := by
  rw [List.map_append, List.map_reverse]
  rfl
theorem g_tol (G : gX) (r : Option Value) (rest : List Value) : (r.toList ++ rest).map (gv G) = (r.map (gv G)).toList ++ rest.map (gv G) := by
  cases r <;> rfl
theorem go_callV {idx np d2 mc2 ms2 b ci : Nat} {M : gM} {as rest : List Value} {fs : List Value} {r : Option Value} {w2 : List va_E} {T : u_T} {N : Nat} {st2 : List Value} (hd : decode cc pc = .ok (.invokevirtual idx, 3)) (hC : gCV y.cls idx np M) (hM : Cal d2 M (.ref b :: as) w mc2 ms2 r w2) (he : w[b]? = some (.inr (ci, fs))) (hc : gCl[ci]? = some (M.1.cls, T, N)) (hs : st = as.reverse ++ .ref b :: rest) (hn : as.length = np) (hr : (rest.map fun v => v.category).sum ≤ 8) (hdd : d2 + 1 ≤ d) (hk : k + mc2 ≤ mc ∧ n + ms2 ≤ ms) (hq : pc + 3 = q) (hs2 : r.toList ++ rest = st2) (h : Go P y cc nL rt d mc ms Q (k + mc2) (n + ms2) w2 q ls st2) : Go P y cc nL rt d mc ms Q k n w pc ls st := by
  subst hq
  subst hs
  subst hs2
  intro G hg p l e R s m args below meth c Z A E H locs la hP hS hl
  obtain ⟨hx, hb, hml, hown, hts, hF, hfr, hlo, hmc, hms, -⟩ := id A
  obtain ⟨c1, c2, c3, c4, c5, c6, c7⟩ := hC
  rw [g_mapr, gad_lt he hP.2.1]
  have hv : gv G (.ref b) = .ref (gB G + b) := by show Value.ref (gad G b) = _; rw [gad_lt he hP.2.1]
  have hM2 := hM G l
  rw [List.map_cons, hv] at hM2
  refine g_call (G := G) (va_runV (As := as.map (gv G)) (rest := rest.map (gv G)) (C := M.1.cls) (b := gB G + b) ⟨hx, hb, hml, hown, hts⟩ hM2 (cwV np hts ?_ rfl rfl rfl ⟨rfl, c6⟩ ⟨?_, ?_⟩) ⟨g_blind G _ _, va_recv hF.1 hP.2.2 hc (gw_at he), fun U hU hW => ⟨rfl, ?_, ?_⟩⟩ rfl (by rw [List.length_map]; exact hn) hl.1 rfl (g_room hr) hd ⟨by omega, by omega⟩) hS (fun H1 locs1 hP1 hS1 => ?_)
  · intro x hx9
    rcases List.mem_append.mp hx9 with h9 | h9
    · simp only [List.mem_cons, List.not_mem_nil, or_false] at h9
      rcases h9 with rfl | rfl | rfl | rfl
      · exact g_good c1
      · exact g_good c2
      · exact g_good c3
      · exact g_good c4
    · rcases List.mem_cons.mp h9 with rfl | h9
      · exact g_good c5
      · exact g_good h9
  · show d2 + 1 ≤ R.frames
    omega
  · show 8 + (M.2.2.1 + 11) + 40 * d2 ≤ R.locals
    omega
  · rw [hU]
    exact (g_kept hF hS).moved hW.alike
  · rw [hU]
    exact hP
  · have h9 := h G hg p l e R s m args below meth c Z A E H1 locs1 la hP1 hS1 hl
    rw [g_tol] at h9
    exact h9
theorem go_callS {idx np d2 mc2 ms2 : Nat} {M : gM} {as rest : List Value} {r : Option Value} {w2 : List va_E} {st2 : List Value} (hd : decode cc pc = .ok (.invokestatic idx, 3)) (hC : gCS y.cls idx np M) (hM : Cal d2 M as w mc2 ms2 r w2) (hs : st = as.reverse ++ rest) (hn : as.length = np) (hr : (rest.map fun v => v.category).sum ≤ 8) (hdd : d2 + 1 ≤ d) (hk : k + mc2 ≤ mc ∧ n + ms2 ≤ ms) (hq : pc + 3 = q) (hs2 : r.toList ++ rest = st2) (h : Go P y cc nL rt d mc ms Q (k + mc2) (n + ms2) w2 q ls st2) : Go P y cc nL rt d mc ms Q k n w pc ls st := by
  subst hq
  subst hs
  subst hs2
  intro G hg p l e R s m args below meth c Z A E H locs la hP hS hl
  obtain ⟨hx, hb, hml, hown, hts, hF, hfr, hlo, hmc, hms, -⟩ := id A
  obtain ⟨c1, c2, c4, c5, c6, c7⟩ := hC
  rw [List.map_append, List.map_reverse]
  refine g_call (G := G) (va_runS (As := as.map (gv G)) (rest := rest.map (gv G)) ⟨hx, hb, hml, hown, hts⟩ (hM G l) (va_cwS np hts ?_ rfl rfl rfl c6 ⟨?_, ?_⟩) ⟨g_blind G _ _, fun U hU hW => ⟨rfl, ?_, ?_⟩⟩ rfl (by rw [List.length_map]; exact hn) hl.1 rfl (g_room hr) hd ⟨by omega, by omega⟩) hS (fun H1 locs1 hP1 hS1 => ?_)
  · intro x hx9
    rcases List.mem_append.mp hx9 with h9 | h9
    · simp only [List.mem_cons, List.not_mem_nil, or_false] at h9
      rcases h9 with rfl | rfl | rfl
      · exact g_good c1
      · exact g_good c2
      · exact g_good c4
    · rcases List.mem_cons.mp h9 with rfl | h9
      · exact g_good c5
      · exact g_good h9
  · show d2 + 1 ≤ R.frames
    omega
  · show 8 + (M.2.2.1 + 11) + 40 * d2 ≤ R.locals
    omega
  · rw [hU]
    exact (g_kept hF hS).moved hW.alike
  · rw [hU]
    exact hP
  · have h9 := h G hg p l e R s m args below meth c Z A E H1 locs1 la hP1 hS1 hl
    rw [g_tol] at h9
    exact h9
theorem go_callI {idx np d2 mc2 ms2 b : Nat} {M : gM} {as rest : List Value} {x9 : va_E} {w2 : List va_E} (hd : decode cc pc = .ok (.invokespecial idx, 3)) (hC : gCI y.cls idx np M) (hM : Cal d2 M (.ref b :: as) w mc2 ms2 none w2) (he : w[b]? = some x9) (hs : st = as.reverse ++ .ref b :: rest) (hn : as.length = np) (hr : (rest.map fun v => v.category).sum ≤ 8) (hdd : d2 + 1 ≤ d) (hk : k + mc2 ≤ mc ∧ n + ms2 ≤ ms) (hq : pc + 3 = q) (h : Go P y cc nL rt d mc ms Q (k + mc2) (n + ms2) w2 q ls rest) : Go P y cc nL rt d mc ms Q k n w pc ls st := by
  subst hq
  subst hs
  intro G hg p l e R s m args below meth c Z A E H locs la hP hS hl
  obtain ⟨hx, hb, hml, hown, hts, hF, hfr, hlo, hmc, hms, -⟩ := id A
  obtain ⟨c1, c2, c4, c5, c6, c7, c8, c9⟩ := hC
  rw [g_mapr, gad_lt he hP.2.1]
  have hv : gv G (.ref b) = .ref (gB G + b) := by show Value.ref (gad G b) = _; rw [gad_lt he hP.2.1]
  have hM2 := hM G l
  rw [List.map_cons, hv, c9] at hM2
  rw [c9] at c5
  refine g_call (G := G) (va_runI (As := as.map (gv G)) (rest := rest.map (gv G)) (b := gB G + b) ⟨hx, hb, hml, hown, hts⟩ hM2 (cwI np hts ?_ rfl rfl rfl (hts _ c4) (hts _ c1) (hts _ c2) c8 c6 ⟨?_, ?_⟩) ⟨g_blind G _ _, fun U hU hW => ⟨rfl, ?_, ?_⟩⟩ rfl (by rw [List.length_map]; exact hn) hl.1 rfl (g_room hr) hd ⟨by omega, by omega⟩) hS (fun H1 locs1 hP1 hS1 => ?_)
  · intro x hx9
    rcases List.mem_cons.mp hx9 with rfl | h9
    · exact g_good c5
    · exact g_good h9
  · show d2 + 1 ≤ R.frames
    omega
  · show 8 + (M.2.2.1 + 11) + 40 * d2 ≤ R.locals
    omega
  · rw [hU]
    exact (g_kept hF hS).moved hW.alike
  · rw [hU]
    exact hP
  · exact h G hg p l e R s m args below meth c Z A E H1 locs1 la hP1 hS1 hl
end GoHeap
