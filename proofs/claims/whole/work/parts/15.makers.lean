theorem gobj_i : Cond.instanceMethod objectInit ∈ gT := gT_t (i := 20) (by decide +kernel) rfl
theorem gobj_c : Cond.code objectInit ⟨#[0xb1]⟩ 1 none ∈ gT := gT_t (i := 21) (by decide +kernel) rfl
section GoAlloc
variable {P : gX → Prop} {y : MethodName} {cc : ByteArray} {nL : Nat} {rt : Option FieldType} {d mc ms : Nat} {Q : Option Value → List va_E → Prop} {k n : Nat} {w : List va_E} {pc q : Nat} {ls : List (Option Value)} {st : List Value}
theorem go_top {a b : Int32} (hab : a = b) (h : Go P y cc nL rt d mc ms Q k n w pc ls (.int b :: st)) : Go P y cc nL rt d mc ms Q k n w pc ls (.int a :: st) := by
  subst hab
  exact h
theorem gv_ref {G : gX} {i : Nat} (h : i < 1000) : gv G (.ref i) = .ref (gB G + i) := by
  show Value.ref (gad G i) = _
  unfold gad
  rw [if_pos h]
/-- one cell more -/
theorem g_push {G : gX} {H H1 : Heap} {x : va_E} (hP : gP G w H) (hw : w.length < 1000) (z1 : H1.size = H.size + 1) (o1 : ∀ q, q < H.size → H1[q]? = H[q]?) (hx : va_at (gD G) gCl (gB G + w.length, ge G x) H1) : gP G (w ++ [x]) H1 := by
  obtain ⟨h1, h2, h3⟩ := hP
  refine ⟨by rw [z1, h1, List.length_append]; rfl, by rw [List.length_append]; exact hw, ?_⟩
  rw [← gw_app]
  have hk : ∀ (j : Nat) (u : Nat × va_E), (gw G w)[j]? = some u → H1[u.1]? = H[u.1]? := fun j u hu => o1 u.1 ((h3 j u hu).lt)
  refine (h3.kept hk).app (fun j u hu => ?_)
  have hz : j < 1 := (List.getElem?_eq_some_iff.mp hu).1
  rw [show j = 0 by omega] at hu
  cases hu
  exact hx
theorem g_pushS {G : gX} {H0 H H1 : Heap} {locs : List Loc} (hS : va_S (gA G) H0 H locs) (z1 : H1.size = H.size + 1) (o1 : ∀ q, q < H.size → H1[q]? = H[q]?) : va_S (gA G) H0 H1 locs := ⟨Nat.le_trans hS.1 (by omega), fun x h1 h2 => (o1 x (Nat.lt_of_lt_of_le h1 hS.1)).trans (hS.2.1 x h1 h2), hS.2.2⟩
set_option maxHeartbeats 4000000 in
theorem go_new {idx ci N : Nat} {C : String} {T : u_T} {ty0 : Nat → FieldType} {fs : List Value} {w2 : List va_E} {lw k2 n2 : Nat} (hd : decode cc pc = .ok (.new idx, 3)) (h1 : Cond.classLink y.cls idx C ∈ gT) (h2 : Cond.instantiable C N ∈ gT) (h3 : Cond.initialized C ∈ gT) (hc : gCl[ci]? = some (C, T, N)) (hin : ∀ x ∈ u_ws C T N, x ∈ gT) (hty : ∀ j, j < N → parseFieldDescriptor (T j).2.2.1 = some (ty0 j)) (hfs : ∀ j, j < N → defaultValue (ty0 j) = vp_V fs j) (hnr : ∀ G : gX, fs.map (gv G) = fs) (hw : w.length = lw) (hl9 : lw < 1000) (hk : k + 1 = k2 ∧ n + N = n2) (hk2 : k2 ≤ mc ∧ n2 ≤ ms) (hw2 : w ++ [.inr (ci, fs)] = w2) (hq : pc + 3 = q) (h : Go P y cc nL rt d mc ms Q k2 n2 w2 q ls (.ref lw :: st)) : Go P y cc nL rt d mc ms Q k n w pc ls st := by
  subst hq
  subst hw2
  subst hw
  obtain ⟨rfl, rfl⟩ := hk
  intro G hg p l e R s m args below meth c Z A E H locs la hP hS hl
  obtain ⟨hx, hb, hml, hown, hts, hF, hfr, hlo, hmc, hms, -⟩ := id A
  have hKn := hF.1.1 ci _ hc
  refine W.newcK hx hb hown (hts _ h1) (hts _ h2) (hts _ h3) rfl hd (by omega) (by omega) hKn.2.1 hP.1 fun H1 kC hkC e1 z1 o1 => ?_
  have z2 : H1.size = H.size + 1 := by rw [z1, hP.1]
  have o2 : ∀ q, q < H.size → H1[q]? = H[q]? := fun q hq => o1 q (by rw [← hP.1]; exact hq)
  have h9 := h G hg p l e R s m args below meth c Z A E H1 locs la (g_push hP hl9 z2 o2 (by
    rw [ge_obj, hnr]
    exact ⟨_, hc, (u_born ty0 hts hin hKn hkC e1 hty).to hfs⟩)) (g_pushS hS z2 o2) hl
  rw [List.map_cons, gv_ref hl9] at h9
  exact h9
set_option maxHeartbeats 4000000 in
theorem go_newa {kd : Nat} {at9 : ArrayType} {ty : FieldType} {N : Nat} {x : Int32} {w2 : List va_E} {lw k2 n2 : Nat} (hd : decode cc pc = .ok (.newarray at9, 2)) (h1 : Cond.arrayClass (newarray.typeOf at9) ∈ gT) (hty : newarray.typeOf at9 = ty) (hkd : ∀ G : gX, (gtys G)[kd]? = some (gKa G kd, ty)) (hra : ∀ (U : State) (cA : ClassId), va_RA U cA ty → U.vm.findClass ("[" ++ ty.toString) = some cA) (hdf : defaultValue ty = .int 0) (hx0 : ¬ x < 0) (hN : x.toNatClampNeg = N) (hby : N * componentBytes ty ≤ 536870912) (hw : w.length = lw) (hl9 : lw < 1000) (hk : k + 1 = k2 ∧ n + N = n2) (hk2 : k2 ≤ mc ∧ n2 ≤ ms) (hw2 : w ++ [.inl (kd, N, .inl (fun _ => 0))] = w2) (hq : pc + 2 = q) (h : Go P y cc nL rt d mc ms Q k2 n2 w2 q ls (.ref lw :: st)) : Go P y cc nL rt d mc ms Q k n w pc ls (.int x :: st) := by
  subst hq
  subst hw2
  subst hw
  subst hty
  obtain ⟨rfl, rfl⟩ := hk
  intro G hg p l e R s m args below meth c Z A E H locs la hP hS hl
  obtain ⟨hx, hb, hml, hown, hts, hF, hfr, hlo, hmc, hms, -⟩ := id A
  refine va_newaK hx hb (hts _ h1) rfl hd rfl hx0 hN hby (by omega) (by omega) hP.1 fun H1 cA e1 z1 o1 hAr hNm => ?_
  have hcA : cA = gKa G kd := by
    have h9 := hra s _ (hF.1.2 kd _ (hkd G)).2
    rw [hNm] at h9
    exact Option.some.inj h9
  have z2 : H1.size = H.size + 1 := by rw [z1, hP.1]
  have o2 : ∀ q, q < H.size → H1[q]? = H[q]? := fun q hq => o1 q (by rw [← hP.1]; exact hq)
  have h9 := h G hg p l e R s m args below meth c Z A E H1 locs la (g_push hP hl9 z2 o2 (by
    rw [ge_arr]
    show H1[gB G + w.length]? = some (vp_cell _ _)
    rw [vp_cell_i, e1, hcA, hdf])) (g_pushS hS z2 o2) hl
  rw [List.map_cons, gv_ref hl9] at h9
  exact h9
theorem go_obj {idx i : Nat} (hd : decode cc pc = .ok (.invokespecial idx, 3)) (h1 : Cond.methodLink y.cls idx objectInit ∈ gT) (hd1 : 1 ≤ d) (hr : (st.map fun v => v.category).sum ≤ 8) (hq : pc + 3 = q) (h : Go P y cc nL rt d mc ms Q k n w q ls st) : Go P y cc nL rt d mc ms Q k n w pc ls (.ref i :: st) := by
  subst hq
  intro G hg p l e R s m args below meth c Z A E H locs la hP hS hl
  obtain ⟨hx, hb, hml, hown, hts, hF, hfr, hlo, hmc, hms, -⟩ := id A
  exact W.objInit hx hb hown (hts _ h1) (hts _ gobj_i) (hts _ gobj_c) rfl (by rw [hml]; exact hl.1) rfl hd (by omega) (by
    have h9 := g_room (pc := pc) (m := m) (la := la) (G := G) (st9 := .ref (gad G i) :: st.map (gv G)) hr
    show 2 * (F0 m pc la (.ref (gad G i) :: st.map (gv G))).monitorRoom + _ + 12 ≤ _
    omega) (h G hg p l e R s m args below meth c Z A E H locs la hP hS hl)
/-- the script -/
def PX (L : Nat) (xs : Nat → Int32) : gX → Prop := fun G => gL G = L ∧ gxs G = xs
theorem go_xald {x : Int32} {L : Nat} {xs : Nat → Int32} (hd : decode cc pc = .ok (.iaload, 1)) (hx : vp_in x L) (hq : pc + 1 = q) (h : Go (PX L xs) y cc nL rt d mc ms Q k n w q ls (.int (xs x.toNatClampNeg) :: st)) : Go (PX L xs) y cc nL rt d mc ms Q k n w pc ls (.int x :: .ref 1001 :: st) := by
  subst hq
  intro G hg p l e R s m args below meth c Z A E H locs la hP hS hl
  show W _ _ _ _ _ _ _ _ _ _ _ _ _ _ _ (F0 m pc la (.int x :: .ref (gad G 1001) :: st.map (gv G)))
  rw [gad_X]
  exact va_ti A.1 A.2.1 A.2.2.2.2.2.1.2.2.2 hS (by rw [hg.1]; exact hx) (by rw [hg.2]; rfl) hd (h G hg p l e R s m args below meth c Z A E H locs la hP hS hl)
theorem go_xlen {L : Nat} {xs : Nat → Int32} {v : Int32} (hd : decode cc pc = .ok (.arraylength, 1)) (hv : Int32.ofNat L = v) (hq : pc + 1 = q) (h : Go (PX L xs) y cc nL rt d mc ms Q k n w q ls (.int v :: st)) : Go (PX L xs) y cc nL rt d mc ms Q k n w pc ls (.ref 1001 :: st) := by
  subst hq
  intro G hg p l e R s m args below meth c Z A E H locs la hP hS hl
  show W _ _ _ _ _ _ _ _ _ _ _ _ _ _ _ (F0 m pc la (.ref (gad G 1001) :: st.map (gv G)))
  rw [gad_X]
  exact va_tlen A.1 A.2.1 A.2.2.2.2.2.1.2.2.2 hS (by rw [hg.1]; exact hv) hd (h G hg p l e R s m args below meth c Z A E H locs la hP hS hl)
end GoAlloc
section GoAlloc2
variable {P : gX → Prop} {y : MethodName} {cc : ByteArray} {nL : Nat} {rt : Option FieldType} {d mc ms : Nat} {Q : Option Value → List va_E → Prop} {k n : Nat} {w : List va_E} {pc q : Nat} {ls : List (Option Value)} {st : List Value}
theorem go_callI2 {idx np d2 mc2 ms2 b k2 n2 : Nat} {M : gM} {as rest : List Value} {x9 : va_E} {w2 : List va_E} (hd : decode cc pc = .ok (.invokespecial idx, 3)) (hC : gCI y.cls idx np M) (hM : Cal d2 M (.ref b :: as) w mc2 ms2 none w2) (he : w[b]? = some x9) (hs : st = as.reverse ++ .ref b :: rest) (hn : as.length = np) (hr : (rest.map fun v => v.category).sum ≤ 8) (hdd : d2 + 1 ≤ d) (hk : k + mc2 = k2 ∧ n + ms2 = n2) (hk2 : k2 ≤ mc ∧ n2 ≤ ms) (hq : pc + 3 = q) (h : Go P y cc nL rt d mc ms Q k2 n2 w2 q ls rest) : Go P y cc nL rt d mc ms Q k n w pc ls st := by
  obtain ⟨rfl, rfl⟩ := hk
  exact go_callI hd hC hM he hs hn hr hdd hk2 hq h
end GoAlloc2

def wk_0 : List va_E := []
theorem kw_0 : Cond.classLink RL 7 RX8 ∈ gT := gT_t (i := 14) (by decide +kernel) rfl
theorem kw_1 : Cond.instantiable RX8 8 ∈ gT := gT_t (i := 15) (by decide +kernel) rfl
theorem kw_2 : Cond.initialized RX8 ∈ gT := gT_t (i := 1) (by decide +kernel) rfl
def wk_1 : List va_E := [.inr (8, [.null, .null, .null, .null, .null, .null, .null, .null])]
theorem kw_3 : Cond.methodLink RX8 1 objectInit ∈ gT := gT_t (i := 19) (by decide +kernel) rfl
theorem kw_4 : Cond.classLink RX8 7 RX0 ∈ gT := gT_t (i := 22) (by decide +kernel) rfl
theorem kw_5 : Cond.instantiable RX0 7 ∈ gT := gT_t (i := 23) (by decide +kernel) rfl
theorem kw_6 : Cond.initialized RX0 ∈ gT := gT_t (i := 2) (by decide +kernel) rfl
def wk_2 : List va_E := [.inr (8, [.null, .null, .null, .null, .null, .null, .null, .null]), .inr (0, [.int 0, .int 0, .int 0, .int 0, .int 0, .int 0, .int 0])]
theorem kw_7 : Cond.methodLink RX0 5 objectInit ∈ gT := gT_t (i := 27) (by decide +kernel) rfl
def wk_3 : List va_E := [.inr (8, [.null, .null, .null, .null, .null, .null, .null, .null]), .inr (0, [.int 3, .int 0, .int 0, .int 0, .int 0, .int 0, .int 0])]
def wk_4 : List va_E := [.inr (8, [.null, .null, .null, .null, .null, .null, .null, .null]), .inr (0, [.int 3, .int 3, .int 0, .int 0, .int 0, .int 0, .int 0])]
def wk_5 : List va_E := [.inr (8, [.null, .null, .null, .null, .null, .null, .null, .null]), .inr (0, [.int 3, .int 3, .int 3, .int 0, .int 0, .int 0, .int 0])]
def wk_6 : List va_E := [.inr (8, [.null, .null, .null, .null, .null, .null, .null, .null]), .inr (0, [.int 3, .int 3, .int 3, .int 0, .int 0, .int 0, .int 7])]
def wk_7 : List va_E := [.inr (8, [.null, .null, .null, .null, .null, .null, .null, .null]), .inr (0, [.int 3, .int 3, .int 3, .int 0, .int 0, .int 7, .int 7])]
def wk_8 : List va_E := [.inr (8, [.null, .null, .null, .null, .null, .null, .null, .null]), .inr (0, [.int 3, .int 3, .int 3, .int 0, .int 0, .int 231, .int 7])]
def wk_9 : List va_E := [.inr (8, [.null, .null, .null, .null, .null, .null, .null, .null]), .inr (0, [.int 3, .int 3, .int 3, .int 0, .int 0, .int 7399, .int 7])]
set_option maxHeartbeats 4000000 in
set_option maxRecDepth 100000 in
theorem mk_X0_lay_1 : Cal 2 mX0_lay [.ref 1, .int 3, .int 3, .int 3, .int 0, .int 0] wk_2 0 0 (some (.int 1)) wk_9 := by
  refine Cal.of (by decide) (g_cats rfl) (Nat.le_of_ble_eq_true rfl) ?_
  refine go_iload_n (q := 1) dX0_lay_0 rfl rfl ?_
  refine go_callS0 (q := 4) (as := [.int 3]) (rest := []) (st2 := [.int 1]) dX0_lay_1 cX0_15 (t_X0_isSide _ 3 1 (by decide)) rfl rfl (Nat.le_of_ble_eq_true rfl) (by decide) ⟨by decide, by decide⟩ rfl rfl ?_
  refine go_if_eq (tgt := 30) (q := 7) dX0_lay_4 (by decide) rfl (fun c => absurd c (by decide)) (fun _ => ?_)
  refine go_iload_n (q := 8) dX0_lay_7 rfl rfl ?_
  refine go_callS0 (q := 11) (as := [.int 3]) (rest := []) (st2 := [.int 1]) dX0_lay_8 cX0_15 (t_X0_isSide _ 3 1 (by decide)) rfl rfl (Nat.le_of_ble_eq_true rfl) (by decide) ⟨by decide, by decide⟩ rfl rfl ?_
  refine go_if_eq (tgt := 30) (q := 14) dX0_lay_11 (by decide) rfl (fun c => absurd c (by decide)) (fun _ => ?_)
  refine go_iload_n (q := 15) dX0_lay_14 rfl rfl ?_
  refine go_callS0 (q := 18) (as := [.int 3]) (rest := []) (st2 := [.int 1]) dX0_lay_15 cX0_15 (t_X0_isSide _ 3 1 (by decide)) rfl rfl (Nat.le_of_ble_eq_true rfl) (by decide) ⟨by decide, by decide⟩ rfl rfl ?_
  refine go_if_eq (tgt := 30) (q := 21) dX0_lay_18 (by decide) rfl (fun c => absurd c (by decide)) (fun _ => ?_)
  refine go_iload_n (q := 22) dX0_lay_21 rfl rfl ?_
  refine go_iload_n (q := 23) dX0_lay_22 rfl rfl ?_
  refine go_iload_n (q := 24) dX0_lay_23 rfl rfl ?_
  refine go_mmax (q := 27) dX0_lay_24 cmX0_19 (by decide) (Nat.le_of_ble_eq_true rfl) ⟨by decide, by decide⟩ rfl ?_
  refine go_top (b := 3) (by decide) ?_
  refine go_icmp_le (tgt := 32) (q := 30) dX0_lay_27 (by decide) rfl (fun _ => ?_) (fun c => absurd c (by decide))
  refine go_aload_n (q := 33) dX0_lay_32 rfl rfl ?_
  refine go_iload_n (q := 34) dX0_lay_33 rfl rfl ?_
  refine go_put (w2 := wk_3) (q := 37) dX0_lay_34 fX0_25 rfl (Nat.le_of_ble_eq_true rfl) (fun _ => rfl) (fun _ => rfl) rfl rfl ?_
  refine go_aload_n (q := 38) dX0_lay_37 rfl rfl ?_
  refine go_iload_n (q := 39) dX0_lay_38 rfl rfl ?_
  refine go_put (w2 := wk_4) (q := 42) dX0_lay_39 fX0_29 rfl (Nat.le_of_ble_eq_true rfl) (fun _ => rfl) (fun _ => rfl) rfl rfl ?_
  refine go_aload_n (q := 43) dX0_lay_42 rfl rfl ?_
  refine go_iload_n (q := 44) dX0_lay_43 rfl rfl ?_
  refine go_put (w2 := wk_5) (q := 47) dX0_lay_44 fX0_32 rfl (Nat.le_of_ble_eq_true rfl) (fun _ => rfl) (fun _ => rfl) rfl rfl ?_
  refine go_aload_n (q := 48) dX0_lay_47 rfl rfl ?_
  refine go_iload (q := 50) dX0_lay_48 rfl rfl ?_
  refine go_put (w2 := wk_5) (q := 53) dX0_lay_50 fX0_35 rfl (Nat.le_of_ble_eq_true rfl) (fun _ => rfl) (fun _ => rfl) rfl rfl ?_
  refine go_aload_n (q := 54) dX0_lay_53 rfl rfl ?_
  refine go_iload (q := 56) dX0_lay_54 rfl rfl ?_
  refine go_put (w2 := wk_5) (q := 59) dX0_lay_56 fX0_39 rfl (Nat.le_of_ble_eq_true rfl) (fun _ => rfl) (fun _ => rfl) rfl rfl ?_
  refine go_aload_n (q := 60) dX0_lay_59 rfl rfl ?_
  refine go_iconst (v := 1) (q := 61) dX0_lay_60 (by decide) rfl ?_
  refine go_iload_n (q := 62) dX0_lay_61 rfl rfl ?_
  refine go_ishl (q := 63) dX0_lay_62 rfl ?_
  refine go_top (b := 8) (by decide) ?_
  refine go_iconst (v := 1) (q := 64) dX0_lay_63 (by decide) rfl ?_
  refine go_isub (q := 65) dX0_lay_64 rfl ?_
  refine go_top (b := 7) (by decide) ?_
  refine go_put (w2 := wk_6) (q := 68) dX0_lay_65 fX0_42 rfl (Nat.le_of_ble_eq_true rfl) (fun _ => rfl) (fun _ => rfl) rfl rfl ?_
  refine go_aload_n (q := 69) dX0_lay_68 rfl rfl ?_
  refine go_iconst (v := 0) (q := 70) dX0_lay_69 (by decide) rfl ?_
  refine go_put (w2 := wk_6) (q := 73) dX0_lay_70 fX0_45 rfl (Nat.le_of_ble_eq_true rfl) (fun _ => rfl) (fun _ => rfl) rfl rfl ?_
  refine go_iconst (v := 0) (q := 74) dX0_lay_73 (by decide) rfl ?_
  refine go_istore (ls2 := [some (.ref 1), some (.int 3), some (.int 3), some (.int 3), some (.int 0), some (.int 0), some (.int 0)]) (q := 76) dX0_lay_74 (by decide) rfl rfl ?_
  refine go_iload (q := 78) dX0_lay_76 rfl rfl ?_
  refine go_iload_n (q := 79) dX0_lay_78 rfl rfl ?_
  refine go_icmp_ge (tgt := 106) (q := 82) dX0_lay_79 (by decide) rfl (fun c => absurd c (by decide)) (fun _ => ?_)
  refine go_aload_n (q := 83) dX0_lay_82 rfl rfl ?_
  refine go_dup (q := 84) dX0_lay_83 rfl rfl ?_
  refine go_get (v := .int 0) (q := 87) dX0_lay_84 fX0_45 rfl rfl rfl ?_
  refine go_aload_n (q := 88) dX0_lay_87 rfl rfl ?_
  refine go_get (v := .int 7) (q := 91) dX0_lay_88 fX0_42 rfl rfl rfl ?_
  refine go_iload (q := 93) dX0_lay_91 rfl rfl ?_
  refine go_iconst (v := 5) (q := 94) dX0_lay_93 (by decide) rfl ?_
  refine go_imul (q := 95) dX0_lay_94 rfl ?_
  refine go_top (b := 0) (by decide) ?_
  refine go_ishl (q := 96) dX0_lay_95 rfl ?_
  refine go_top (b := 7) (by decide) ?_
  refine go_ior (q := 97) dX0_lay_96 rfl ?_
  refine go_top (b := 7) (by decide) ?_
  refine go_put (w2 := wk_7) (q := 100) dX0_lay_97 fX0_45 rfl (Nat.le_of_ble_eq_true rfl) (fun _ => rfl) (fun _ => rfl) rfl rfl ?_
  refine go_iinc (v := 1) (ls2 := [some (.ref 1), some (.int 3), some (.int 3), some (.int 3), some (.int 0), some (.int 0), some (.int 1)]) (q := 103) dX0_lay_100 (by decide) rfl (by decide) rfl rfl ?_
  refine go_goto (tgt := 76) dX0_lay_103 (by decide) ?_
  refine go_iload (q := 78) dX0_lay_76 rfl rfl ?_
  refine go_iload_n (q := 79) dX0_lay_78 rfl rfl ?_
  refine go_icmp_ge (tgt := 106) (q := 82) dX0_lay_79 (by decide) rfl (fun c => absurd c (by decide)) (fun _ => ?_)
  refine go_aload_n (q := 83) dX0_lay_82 rfl rfl ?_
  refine go_dup (q := 84) dX0_lay_83 rfl rfl ?_
  refine go_get (v := .int 7) (q := 87) dX0_lay_84 fX0_45 rfl rfl rfl ?_
  refine go_aload_n (q := 88) dX0_lay_87 rfl rfl ?_
  refine go_get (v := .int 7) (q := 91) dX0_lay_88 fX0_42 rfl rfl rfl ?_
  refine go_iload (q := 93) dX0_lay_91 rfl rfl ?_
  refine go_iconst (v := 5) (q := 94) dX0_lay_93 (by decide) rfl ?_
  refine go_imul (q := 95) dX0_lay_94 rfl ?_
  refine go_top (b := 5) (by decide) ?_
  refine go_ishl (q := 96) dX0_lay_95 rfl ?_
  refine go_top (b := 224) (by decide) ?_
  refine go_ior (q := 97) dX0_lay_96 rfl ?_
  refine go_top (b := 231) (by decide) ?_
  refine go_put (w2 := wk_8) (q := 100) dX0_lay_97 fX0_45 rfl (Nat.le_of_ble_eq_true rfl) (fun _ => rfl) (fun _ => rfl) rfl rfl ?_
  refine go_iinc (v := 2) (ls2 := [some (.ref 1), some (.int 3), some (.int 3), some (.int 3), some (.int 0), some (.int 0), some (.int 2)]) (q := 103) dX0_lay_100 (by decide) rfl (by decide) rfl rfl ?_
  refine go_goto (tgt := 76) dX0_lay_103 (by decide) ?_
  refine go_iload (q := 78) dX0_lay_76 rfl rfl ?_
  refine go_iload_n (q := 79) dX0_lay_78 rfl rfl ?_
  refine go_icmp_ge (tgt := 106) (q := 82) dX0_lay_79 (by decide) rfl (fun c => absurd c (by decide)) (fun _ => ?_)
  refine go_aload_n (q := 83) dX0_lay_82 rfl rfl ?_
  refine go_dup (q := 84) dX0_lay_83 rfl rfl ?_
  refine go_get (v := .int 231) (q := 87) dX0_lay_84 fX0_45 rfl rfl rfl ?_
  refine go_aload_n (q := 88) dX0_lay_87 rfl rfl ?_
  refine go_get (v := .int 7) (q := 91) dX0_lay_88 fX0_42 rfl rfl rfl ?_
  refine go_iload (q := 93) dX0_lay_91 rfl rfl ?_
  refine go_iconst (v := 5) (q := 94) dX0_lay_93 (by decide) rfl ?_
  refine go_imul (q := 95) dX0_lay_94 rfl ?_
  refine go_top (b := 10) (by decide) ?_
  refine go_ishl (q := 96) dX0_lay_95 rfl ?_
  refine go_top (b := 7168) (by decide) ?_
  refine go_ior (q := 97) dX0_lay_96 rfl ?_
  refine go_top (b := 7399) (by decide) ?_
  refine go_put (w2 := wk_9) (q := 100) dX0_lay_97 fX0_45 rfl (Nat.le_of_ble_eq_true rfl) (fun _ => rfl) (fun _ => rfl) rfl rfl ?_
  refine go_iinc (v := 3) (ls2 := [some (.ref 1), some (.int 3), some (.int 3), some (.int 3), some (.int 0), some (.int 0), some (.int 3)]) (q := 103) dX0_lay_100 (by decide) rfl (by decide) rfl rfl ?_
  refine go_goto (tgt := 76) dX0_lay_103 (by decide) ?_
  refine go_iload (q := 78) dX0_lay_76 rfl rfl ?_
  refine go_iload_n (q := 79) dX0_lay_78 rfl rfl ?_
  refine go_icmp_ge (tgt := 106) (q := 82) dX0_lay_79 (by decide) rfl (fun _ => ?_) (fun c => absurd c (by decide))
  refine go_iconst (v := 1) (q := 107) dX0_lay_106 (by decide) rfl ?_
  exact go_iret dX0_lay_107 rfl rfl (Nat.le_refl _) (Nat.le_refl _) ⟨rfl, rfl⟩
set_option maxHeartbeats 4000000 in
set_option maxRecDepth 100000 in
theorem mk_X0_init_1 : Cal 3 mX0_init [.ref 1] wk_2 0 0 none wk_9 := by
  refine Cal.of (by decide) (g_cats rfl) (Nat.le_of_ble_eq_true rfl) ?_
  refine go_aload_n (q := 1) dX0_init_0 rfl rfl ?_
  refine go_obj (q := 4) dX0_init_1 kw_7 (by decide) (Nat.le_of_ble_eq_true rfl) rfl ?_
  refine go_aload_n (q := 5) dX0_init_4 rfl rfl ?_
  refine go_iconst (v := 3) (q := 6) dX0_init_5 (by decide) rfl ?_
  refine go_iconst (v := 3) (q := 7) dX0_init_6 (by decide) rfl ?_
  refine go_iconst (v := 3) (q := 8) dX0_init_7 (by decide) rfl ?_
  refine go_iconst (v := 0) (q := 9) dX0_init_8 (by decide) rfl ?_
  refine go_iconst (v := 0) (q := 10) dX0_init_9 (by decide) rfl ?_
  refine go_callV0 (q := 13) (as := [.int 3, .int 3, .int 3, .int 0, .int 0]) (rest := []) (st2 := [.int 1]) (w2 := wk_9) dX0_init_10 cX0_11 mk_X0_lay_1 rfl rfl rfl rfl (Nat.le_of_ble_eq_true rfl) (by decide) ⟨by decide, by decide⟩ rfl rfl ?_
  refine go_pop (q := 14) dX0_init_13 rfl rfl ?_
  exact go_ret dX0_init_14 rfl (Nat.le_refl _) (Nat.le_refl _) ⟨rfl, rfl⟩
def wk_10 : List va_E := [.inr (8, [.ref 1, .null, .null, .null, .null, .null, .null, .null]), .inr (0, [.int 3, .int 3, .int 3, .int 0, .int 0, .int 7399, .int 7])]
theorem kw_8 : Cond.classLink RX8 16 RX3 ∈ gT := gT_t (i := 68) (by decide +kernel) rfl
theorem kw_9 : Cond.instantiable RX3 4 ∈ gT := gT_t (i := 69) (by decide +kernel) rfl
theorem kw_10 : Cond.initialized RX3 ∈ gT := gT_t (i := 4) (by decide +kernel) rfl
def wk_11 : List va_E := [.inr (8, [.ref 1, .null, .null, .null, .null, .null, .null, .null]), .inr (0, [.int 3, .int 3, .int 3, .int 0, .int 0, .int 7399, .int 7]), .inr (3, [.null, .null, .int 0, .int 0])]
theorem kw_11 : Cond.methodLink RX3 1 objectInit ∈ gT := gT_t (i := 73) (by decide +kernel) rfl
def wk_12 : List va_E := [.inr (8, [.ref 1, .null, .null, .null, .null, .null, .null, .null]), .inr (0, [.int 3, .int 3, .int 3, .int 0, .int 0, .int 7399, .int 7]), .inr (3, [.ref 1, .null, .int 0, .int 0])]
theorem kw_12 : Cond.arrayClass (newarray.typeOf .int) ∈ gT := gT_t (i := 91) (by decide +kernel) rfl
def wk_13 : List va_E := [.inr (8, [.ref 1, .null, .null, .null, .null, .null, .null, .null]), .inr (0, [.int 3, .int 3, .int 3, .int 0, .int 0, .int 7399, .int 7]), .inr (3, [.ref 1, .null, .int 0, .int 0]), .inl (0, 16, .inl (fun _ => 0))]
def wk_14 : List va_E := [.inr (8, [.ref 1, .null, .null, .null, .null, .null, .null, .null]), .inr (0, [.int 3, .int 3, .int 3, .int 0, .int 0, .int 7399, .int 7]), .inr (3, [.ref 1, .ref 3, .int 0, .int 0]), .inl (0, 16, .inl (fun _ => 0))]
set_option maxHeartbeats 4000000 in
set_option maxRecDepth 100000 in
theorem mk_X3_init_2 : Cal 1 mX3_init [.ref 2, .ref 1] wk_11 1 16 none wk_14 := by
  refine Cal.of (by decide) (g_cats rfl) (Nat.le_of_ble_eq_true rfl) ?_
  refine go_aload_n (q := 1) dX3_init_0 rfl rfl ?_
  refine go_obj (q := 4) dX3_init_1 kw_11 (by decide) (Nat.le_of_ble_eq_true rfl) rfl ?_
  refine go_aload_n (q := 5) dX3_init_4 rfl rfl ?_
  refine go_aload_n (q := 6) dX3_init_5 rfl rfl ?_
  refine go_putF (w2 := wk_12) (q := 9) dX3_init_6 rfl fX3_7 rfl (Nat.le_of_ble_eq_true rfl) (fun _ => rfl) (fun _ => rfl) rfl rfl ?_
  refine go_aload_n (q := 10) dX3_init_9 rfl rfl ?_
  refine go_bipush (v := 16) (q := 12) dX3_init_10 (by decide) rfl ?_
  refine go_newa (kd := 0) (ty := .int) (N := 16) (lw := 3) (k2 := 1) (n2 := 16) (w2 := wk_13) (q := 14) dX3_init_12 kw_12 rfl (fun _ => rfl) (fun _ _ h => h) rfl (by decide) (by decide) (by decide) rfl (by decide) ⟨rfl, rfl⟩ ⟨by decide, by decide⟩ rfl rfl ?_
  refine go_putF (w2 := wk_14) (q := 17) dX3_init_14 rfl fX3_15 rfl (Nat.le_of_ble_eq_true rfl) (fun _ => rfl) (fun _ => rfl) rfl rfl ?_
  exact go_ret dX3_init_17 rfl (Nat.le_refl _) (Nat.le_refl _) ⟨rfl, rfl⟩
def wk_15 : List va_E := [.inr (8, [.ref 1, .ref 2, .null, .null, .null, .null, .null, .null]), .inr (0, [.int 3, .int 3, .int 3, .int 0, .int 0, .int 7399, .int 7]), .inr (3, [.ref 1, .ref 3, .int 0, .int 0]), .inl (0, 16, .inl (fun _ => 0))]
theorem kw_13 : Cond.classLink RX8 25 RX5 ∈ gT := gT_t (i := 92) (by decide +kernel) rfl
theorem kw_14 : Cond.instantiable RX5 1 ∈ gT := gT_t (i := 93) (by decide +kernel) rfl
theorem kw_15 : Cond.initialized RX5 ∈ gT := gT_t (i := 5) (by decide +kernel) rfl
def wk_16 : List va_E := [.inr (8, [.ref 1, .ref 2, .null, .null, .null, .null, .null, .null]), .inr (0, [.int 3, .int 3, .int 3, .int 0, .int 0, .int 7399, .int 7]), .inr (3, [.ref 1, .ref 3, .int 0, .int 0]), .inl (0, 16, .inl (fun _ => 0)), .inr (5, [.null])]
theorem kw_16 : Cond.methodLink RX5 1 objectInit ∈ gT := gT_t (i := 97) (by decide +kernel) rfl
def wk_17 : List va_E := [.inr (8, [.ref 1, .ref 2, .null, .null, .null, .null, .null, .null]), .inr (0, [.int 3, .int 3, .int 3, .int 0, .int 0, .int 7399, .int 7]), .inr (3, [.ref 1, .ref 3, .int 0, .int 0]), .inl (0, 16, .inl (fun _ => 0)), .inr (5, [.ref 1])]
set_option maxHeartbeats 4000000 in
set_option maxRecDepth 100000 in
theorem mk_X5_init_4 : Cal 1 mX5_init [.ref 4, .ref 1] wk_16 0 0 none wk_17 := by
  refine Cal.of (by decide) (g_cats rfl) (Nat.le_of_ble_eq_true rfl) ?_
  refine go_aload_n (q := 1) dX5_init_0 rfl rfl ?_
  refine go_obj (q := 4) dX5_init_1 kw_16 (by decide) (Nat.le_of_ble_eq_true rfl) rfl ?_
  refine go_aload_n (q := 5) dX5_init_4 rfl rfl ?_
  refine go_aload_n (q := 6) dX5_init_5 rfl rfl ?_
  refine go_putF (w2 := wk_17) (q := 9) dX5_init_6 rfl fX5_7 rfl (Nat.le_of_ble_eq_true rfl) (fun _ => rfl) (fun _ => rfl) rfl rfl ?_
  exact go_ret dX5_init_9 rfl (Nat.le_refl _) (Nat.le_refl _) ⟨rfl, rfl⟩
def wk_18 : List va_E := [.inr (8, [.ref 1, .ref 2, .ref 4, .null, .null, .null, .null, .null]), .inr (0, [.int 3, .int 3, .int 3, .int 0, .int 0, .int 7399, .int 7]), .inr (3, [.ref 1, .ref 3, .int 0, .int 0]), .inl (0, 16, .inl (fun _ => 0)), .inr (5, [.ref 1])]
theorem kw_17 : Cond.classLink RX8 32 RX2 ∈ gT := gT_t (i := 102) (by decide +kernel) rfl
theorem kw_18 : Cond.instantiable RX2 8 ∈ gT := gT_t (i := 103) (by decide +kernel) rfl
theorem kw_19 : Cond.initialized RX2 ∈ gT := gT_t (i := 6) (by decide +kernel) rfl
def wk_19 : List va_E := [.inr (8, [.ref 1, .ref 2, .ref 4, .null, .null, .null, .null, .null]), .inr (0, [.int 3, .int 3, .int 3, .int 0, .int 0, .int 7399, .int 7]), .inr (3, [.ref 1, .ref 3, .int 0, .int 0]), .inl (0, 16, .inl (fun _ => 0)), .inr (5, [.ref 1]), .inr (2, [.null, .null, .null, .null, .null, .null, .int 0, .int 0])]
theorem kw_20 : Cond.methodLink RX2 7 objectInit ∈ gT := gT_t (i := 107) (by decide +kernel) rfl
def wk_20 : List va_E := [.inr (8, [.ref 1, .ref 2, .ref 4, .null, .null, .null, .null, .null]), .inr (0, [.int 3, .int 3, .int 3, .int 0, .int 0, .int 7399, .int 7]), .inr (3, [.ref 1, .ref 3, .int 0, .int 0]), .inl (0, 16, .inl (fun _ => 0)), .inr (5, [.ref 1]), .inr (2, [.ref 1, .null, .null, .null, .null, .null, .int 0, .int 0])]
def wk_21 : List va_E := [.inr (8, [.ref 1, .ref 2, .ref 4, .null, .null, .null, .null, .null]), .inr (0, [.int 3, .int 3, .int 3, .int 0, .int 0, .int 7399, .int 7]), .inr (3, [.ref 1, .ref 3, .int 0, .int 0]), .inl (0, 16, .inl (fun _ => 0)), .inr (5, [.ref 1]), .inr (2, [.ref 1, .ref 2, .null, .null, .null, .null, .int 0, .int 0])]
def wk_22 : List va_E := [.inr (8, [.ref 1, .ref 2, .ref 4, .null, .null, .null, .null, .null]), .inr (0, [.int 3, .int 3, .int 3, .int 0, .int 0, .int 7399, .int 7]), .inr (3, [.ref 1, .ref 3, .int 0, .int 0]), .inl (0, 16, .inl (fun _ => 0)), .inr (5, [.ref 1]), .inr (2, [.ref 1, .ref 2, .ref 4, .null, .null, .null, .int 0, .int 0])]
def wk_23 : List va_E := [.inr (8, [.ref 1, .ref 2, .ref 4, .null, .null, .null, .null, .null]), .inr (0, [.int 3, .int 3, .int 3, .int 0, .int 0, .int 7399, .int 7]), .inr (3, [.ref 1, .ref 3, .int 0, .int 0]), .inl (0, 16, .inl (fun _ => 0)), .inr (5, [.ref 1]), .inr (2, [.ref 1, .ref 2, .ref 4, .null, .null, .null, .int 0, .int 0]), .inl (0, 6, .inl (fun _ => 0))]
def wk_24 : List va_E := [.inr (8, [.ref 1, .ref 2, .ref 4, .null, .null, .null, .null, .null]), .inr (0, [.int 3, .int 3, .int 3, .int 0, .int 0, .int 7399, .int 7]), .inr (3, [.ref 1, .ref 3, .int 0, .int 0]), .inl (0, 16, .inl (fun _ => 0)), .inr (5, [.ref 1]), .inr (2, [.ref 1, .ref 2, .ref 4, .ref 6, .null, .null, .int 0, .int 0]), .inl (0, 6, .inl (fun _ => 0))]
def wk_25 : List va_E := [.inr (8, [.ref 1, .ref 2, .ref 4, .null, .null, .null, .null, .null]), .inr (0, [.int 3, .int 3, .int 3, .int 0, .int 0, .int 7399, .int 7]), .inr (3, [.ref 1, .ref 3, .int 0, .int 0]), .inl (0, 16, .inl (fun _ => 0)), .inr (5, [.ref 1]), .inr (2, [.ref 1, .ref 2, .ref 4, .ref 6, .null, .null, .int 0, .int 0]), .inl (0, 6, .inl (fun _ => 0)), .inl (0, 102, .inl (fun _ => 0))]
def wk_26 : List va_E := [.inr (8, [.ref 1, .ref 2, .ref 4, .null, .null, .null, .null, .null]), .inr (0, [.int 3, .int 3, .int 3, .int 0, .int 0, .int 7399, .int 7]), .inr (3, [.ref 1, .ref 3, .int 0, .int 0]), .inl (0, 16, .inl (fun _ => 0)), .inr (5, [.ref 1]), .inr (2, [.ref 1, .ref 2, .ref 4, .ref 6, .ref 7, .null, .int 0, .int 0]), .inl (0, 6, .inl (fun _ => 0)), .inl (0, 102, .inl (fun _ => 0))]
def wk_27 : List va_E := [.inr (8, [.ref 1, .ref 2, .ref 4, .null, .null, .null, .null, .null]), .inr (0, [.int 3, .int 3, .int 3, .int 0, .int 0, .int 7399, .int 7]), .inr (3, [.ref 1, .ref 3, .int 0, .int 0]), .inl (0, 16, .inl (fun _ => 0)), .inr (5, [.ref 1]), .inr (2, [.ref 1, .ref 2, .ref 4, .ref 6, .ref 7, .null, .int 0, .int 0]), .inl (0, 6, .inl (fun _ => 0)), .inl (0, 102, .inl (fun _ => 0)), .inl (0, 102, .inl (fun _ => 0))]
def wk_28 : List va_E := [.inr (8, [.ref 1, .ref 2, .ref 4, .null, .null, .null, .null, .null]), .inr (0, [.int 3, .int 3, .int 3, .int 0, .int 0, .int 7399, .int 7]), .inr (3, [.ref 1, .ref 3, .int 0, .int 0]), .inl (0, 16, .inl (fun _ => 0)), .inr (5, [.ref 1]), .inr (2, [.ref 1, .ref 2, .ref 4, .ref 6, .ref 7, .ref 8, .int 0, .int 0]), .inl (0, 6, .inl (fun _ => 0)), .inl (0, 102, .inl (fun _ => 0)), .inl (0, 102, .inl (fun _ => 0))]
def wk_29 : List va_E := [.inr (8, [.ref 1, .ref 2, .ref 4, .null, .null, .null, .null, .null]), .inr (0, [.int 3, .int 3, .int 3, .int 0, .int 0, .int 7399, .int 7]), .inr (3, [.ref 1, .ref 3, .int 0, .int 0]), .inl (0, 16, .inl (fun _ => 0)), .inr (5, [.ref 1]), .inr (2, [.ref 1, .ref 2, .ref 4, .ref 6, .ref 7, .ref 8, .int 3, .int 0]), .inl (0, 6, .inl (fun _ => 0)), .inl (0, 102, .inl (fun _ => 0)), .inl (0, 102, .inl (fun _ => 0))]
def wk_30 : List va_E := [.inr (8, [.ref 1, .ref 2, .ref 4, .null, .null, .null, .null, .null]), .inr (0, [.int 3, .int 3, .int 3, .int 0, .int 0, .int 7399, .int 7]), .inr (3, [.ref 1, .ref 3, .int 0, .int 0]), .inl (0, 16, .inl (fun _ => 0)), .inr (5, [.ref 1]), .inr (2, [.ref 1, .ref 2, .ref 4, .ref 6, .ref 7, .ref 8, .int 3, .int 0]), .inl (0, 6, .inl (fiF (fun _ => 0) 1 6)), .inl (0, 102, .inl (fun _ => 0)), .inl (0, 102, .inl (fun _ => 0))]
def wk_31 : List va_E := [.inr (8, [.ref 1, .ref 2, .ref 4, .null, .null, .null, .null, .null]), .inr (0, [.int 3, .int 3, .int 3, .int 0, .int 0, .int 7399, .int 7]), .inr (3, [.ref 1, .ref 3, .int 0, .int 0]), .inl (0, 16, .inl (fun _ => 0)), .inr (5, [.ref 1]), .inr (2, [.ref 1, .ref 2, .ref 4, .ref 6, .ref 7, .ref 8, .int 3, .int 0]), .inl (0, 6, .inl (fiF (fun _ => 0) 1 6)), .inl (0, 102, .inl (fiF (fun _ => 0) 2 102)), .inl (0, 102, .inl (fun _ => 0))]
set_option maxHeartbeats 4000000 in
set_option maxRecDepth 100000 in
theorem mk_X2_init_5 : Cal 2 mX2_init [.ref 5, .ref 1, .ref 2, .ref 4] wk_19 3 210 none wk_31 := by
  refine Cal.of (by decide) (g_cats rfl) (Nat.le_of_ble_eq_true rfl) ?_
  refine go_aload_n (q := 1) dX2_init_0 rfl rfl ?_
  refine go_obj (q := 4) dX2_init_1 kw_20 (by decide) (Nat.le_of_ble_eq_true rfl) rfl ?_
  refine go_aload_n (q := 5) dX2_init_4 rfl rfl ?_
  refine go_aload_n (q := 6) dX2_init_5 rfl rfl ?_
  refine go_putF (w2 := wk_20) (q := 9) dX2_init_6 rfl fX2_13 rfl (Nat.le_of_ble_eq_true rfl) (fun _ => rfl) (fun _ => rfl) rfl rfl ?_
  refine go_aload_n (q := 10) dX2_init_9 rfl rfl ?_
  refine go_aload_n (q := 11) dX2_init_10 rfl rfl ?_
  refine go_putF (w2 := wk_21) (q := 14) dX2_init_11 rfl fX2_19 rfl (Nat.le_of_ble_eq_true rfl) (fun _ => rfl) (fun _ => rfl) rfl rfl ?_
  refine go_aload_n (q := 15) dX2_init_14 rfl rfl ?_
  refine go_aload_n (q := 16) dX2_init_15 rfl rfl ?_
  refine go_putF (w2 := wk_22) (q := 19) dX2_init_16 rfl fX2_23 rfl (Nat.le_of_ble_eq_true rfl) (fun _ => rfl) (fun _ => rfl) rfl rfl ?_
  refine go_aload_n (q := 20) dX2_init_19 rfl rfl ?_
  refine go_bipush (v := 6) (q := 22) dX2_init_20 (by decide) rfl ?_
  refine go_newa (kd := 0) (ty := .int) (N := 6) (lw := 6) (k2 := 1) (n2 := 6) (w2 := wk_23) (q := 24) dX2_init_22 kw_12 rfl (fun _ => rfl) (fun _ _ h => h) rfl (by decide) (by decide) (by decide) rfl (by decide) ⟨rfl, rfl⟩ ⟨by decide, by decide⟩ rfl rfl ?_
  refine go_putF (w2 := wk_24) (q := 27) dX2_init_24 rfl fX2_27 rfl (Nat.le_of_ble_eq_true rfl) (fun _ => rfl) (fun _ => rfl) rfl rfl ?_
  refine go_aload_n (q := 28) dX2_init_27 rfl rfl ?_
  refine go_bipush (v := 102) (q := 30) dX2_init_28 (by decide) rfl ?_
  refine go_newa (kd := 0) (ty := .int) (N := 102) (lw := 7) (k2 := 2) (n2 := 108) (w2 := wk_25) (q := 32) dX2_init_30 kw_12 rfl (fun _ => rfl) (fun _ _ h => h) rfl (by decide) (by decide) (by decide) rfl (by decide) ⟨rfl, rfl⟩ ⟨by decide, by decide⟩ rfl rfl ?_
  refine go_putF (w2 := wk_26) (q := 35) dX2_init_32 rfl fX2_31 rfl (Nat.le_of_ble_eq_true rfl) (fun _ => rfl) (fun _ => rfl) rfl rfl ?_
  refine go_aload_n (q := 36) dX2_init_35 rfl rfl ?_
  refine go_bipush (v := 102) (q := 38) dX2_init_36 (by decide) rfl ?_
  refine go_newa (kd := 0) (ty := .int) (N := 102) (lw := 8) (k2 := 3) (n2 := 210) (w2 := wk_27) (q := 40) dX2_init_38 kw_12 rfl (fun _ => rfl) (fun _ _ h => h) rfl (by decide) (by decide) (by decide) rfl (by decide) ⟨rfl, rfl⟩ ⟨by decide, by decide⟩ rfl rfl ?_
  refine go_putF (w2 := wk_28) (q := 43) dX2_init_40 rfl fX2_34 rfl (Nat.le_of_ble_eq_true rfl) (fun _ => rfl) (fun _ => rfl) rfl rfl ?_
  refine go_aload_n (q := 44) dX2_init_43 rfl rfl ?_
  refine go_iconst (v := 3) (q := 45) dX2_init_44 (by decide) rfl ?_
  refine go_put (w2 := wk_29) (q := 48) dX2_init_45 fX2_37 rfl (Nat.le_of_ble_eq_true rfl) (fun _ => rfl) (fun _ => rfl) rfl rfl ?_
  refine go_aload_n (q := 49) dX2_init_48 rfl rfl ?_
  refine go_get (v := .ref 6) (q := 52) dX2_init_49 fX2_27 rfl rfl rfl ?_
  refine go_iconst (v := 1) (q := 53) dX2_init_52 (by decide) rfl ?_
  refine go_callS0 (q := 56) (as := [.ref 6, .int 1]) (rest := []) (st2 := []) (w2 := wk_30) dX2_init_53 cX2_41 (fill_cal wk_29 6 6 (fun _ => 0) 1 rfl (by decide)) rfl rfl (Nat.le_of_ble_eq_true rfl) (by decide) ⟨by decide, by decide⟩ rfl rfl ?_
  refine go_aload_n (q := 57) dX2_init_56 rfl rfl ?_
  refine go_get (v := .ref 7) (q := 60) dX2_init_57 fX2_31 rfl rfl rfl ?_
  refine go_iconst (v := 2) (q := 61) dX2_init_60 (by decide) rfl ?_
  refine go_callS0 (q := 64) (as := [.ref 7, .int 2]) (rest := []) (st2 := []) (w2 := wk_31) dX2_init_61 cX2_41 (fill_cal wk_30 7 102 (fun _ => 0) 2 rfl (by decide)) rfl rfl (Nat.le_of_ble_eq_true rfl) (by decide) ⟨by decide, by decide⟩ rfl rfl ?_
  exact go_ret dX2_init_64 rfl (Nat.le_refl _) (Nat.le_refl _) ⟨rfl, rfl⟩
def wk_32 : List va_E := [.inr (8, [.ref 1, .ref 2, .ref 4, .ref 5, .null, .null, .null, .null]), .inr (0, [.int 3, .int 3, .int 3, .int 0, .int 0, .int 7399, .int 7]), .inr (3, [.ref 1, .ref 3, .int 0, .int 0]), .inl (0, 16, .inl (fun _ => 0)), .inr (5, [.ref 1]), .inr (2, [.ref 1, .ref 2, .ref 4, .ref 6, .ref 7, .ref 8, .int 3, .int 0]), .inl (0, 6, .inl (fiF (fun _ => 0) 1 6)), .inl (0, 102, .inl (fiF (fun _ => 0) 2 102)), .inl (0, 102, .inl (fun _ => 0))]
theorem kw_21 : Cond.classLink RX8 41 RX4 ∈ gT := gT_t (i := 137) (by decide +kernel) rfl
theorem kw_22 : Cond.instantiable RX4 4 ∈ gT := gT_t (i := 138) (by decide +kernel) rfl
theorem kw_23 : Cond.initialized RX4 ∈ gT := gT_t (i := 8) (by decide +kernel) rfl
def wk_33 : List va_E := [.inr (8, [.ref 1, .ref 2, .ref 4, .ref 5, .null, .null, .null, .null]), .inr (0, [.int 3, .int 3, .int 3, .int 0, .int 0, .int 7399, .int 7]), .inr (3, [.ref 1, .ref 3, .int 0, .int 0]), .inl (0, 16, .inl (fun _ => 0)), .inr (5, [.ref 1]), .inr (2, [.ref 1, .ref 2, .ref 4, .ref 6, .ref 7, .ref 8, .int 3, .int 0]), .inl (0, 6, .inl (fiF (fun _ => 0) 1 6)), .inl (0, 102, .inl (fiF (fun _ => 0) 2 102)), .inl (0, 102, .inl (fun _ => 0)), .inr (4, [.null, .null, .null, .null])]
theorem kw_24 : Cond.methodLink RX4 1 objectInit ∈ gT := gT_t (i := 142) (by decide +kernel) rfl
def wk_34 : List va_E := [.inr (8, [.ref 1, .ref 2, .ref 4, .ref 5, .null, .null, .null, .null]), .inr (0, [.int 3, .int 3, .int 3, .int 0, .int 0, .int 7399, .int 7]), .inr (3, [.ref 1, .ref 3, .int 0, .int 0]), .inl (0, 16, .inl (fun _ => 0)), .inr (5, [.ref 1]), .inr (2, [.ref 1, .ref 2, .ref 4, .ref 6, .ref 7, .ref 8, .int 3, .int 0]), .inl (0, 6, .inl (fiF (fun _ => 0) 1 6)), .inl (0, 102, .inl (fiF (fun _ => 0) 2 102)), .inl (0, 102, .inl (fun _ => 0)), .inr (4, [.ref 1, .null, .null, .null])]
def wk_35 : List va_E := [.inr (8, [.ref 1, .ref 2, .ref 4, .ref 5, .null, .null, .null, .null]), .inr (0, [.int 3, .int 3, .int 3, .int 0, .int 0, .int 7399, .int 7]), .inr (3, [.ref 1, .ref 3, .int 0, .int 0]), .inl (0, 16, .inl (fun _ => 0)), .inr (5, [.ref 1]), .inr (2, [.ref 1, .ref 2, .ref 4, .ref 6, .ref 7, .ref 8, .int 3, .int 0]), .inl (0, 6, .inl (fiF (fun _ => 0) 1 6)), .inl (0, 102, .inl (fiF (fun _ => 0) 2 102)), .inl (0, 102, .inl (fun _ => 0)), .inr (4, [.ref 1, .ref 2, .null, .null])]
def wk_36 : List va_E := [.inr (8, [.ref 1, .ref 2, .ref 4, .ref 5, .null, .null, .null, .null]), .inr (0, [.int 3, .int 3, .int 3, .int 0, .int 0, .int 7399, .int 7]), .inr (3, [.ref 1, .ref 3, .int 0, .int 0]), .inl (0, 16, .inl (fun _ => 0)), .inr (5, [.ref 1]), .inr (2, [.ref 1, .ref 2, .ref 4, .ref 6, .ref 7, .ref 8, .int 3, .int 0]), .inl (0, 6, .inl (fiF (fun _ => 0) 1 6)), .inl (0, 102, .inl (fiF (fun _ => 0) 2 102)), .inl (0, 102, .inl (fun _ => 0)), .inr (4, [.ref 1, .ref 2, .ref 5, .null])]
theorem kw_25 : Cond.classLink RX4 21 RX7 ∈ gT := gT_t (i := 143) (by decide +kernel) rfl
theorem kw_26 : Cond.instantiable RX7 2 ∈ gT := gT_t (i := 144) (by decide +kernel) rfl
theorem kw_27 : Cond.initialized RX7 ∈ gT := gT_t (i := 9) (by decide +kernel) rfl
def wk_37 : List va_E := [.inr (8, [.ref 1, .ref 2, .ref 4, .ref 5, .null, .null, .null, .null]), .inr (0, [.int 3, .int 3, .int 3, .int 0, .int 0, .int 7399, .int 7]), .inr (3, [.ref 1, .ref 3, .int 0, .int 0]), .inl (0, 16, .inl (fun _ => 0)), .inr (5, [.ref 1]), .inr (2, [.ref 1, .ref 2, .ref 4, .ref 6, .ref 7, .ref 8, .int 3, .int 0]), .inl (0, 6, .inl (fiF (fun _ => 0) 1 6)), .inl (0, 102, .inl (fiF (fun _ => 0) 2 102)), .inl (0, 102, .inl (fun _ => 0)), .inr (4, [.ref 1, .ref 2, .ref 5, .null]), .inr (7, [.null, .int 0])]
theorem kw_28 : Cond.methodLink RX7 3 objectInit ∈ gT := gT_t (i := 148) (by decide +kernel) rfl
theorem kw_29 : Cond.arrayClass (newarray.typeOf .byte) ∈ gT := gT_t (i := 158) (by decide +kernel) rfl
def wk_38 : List va_E := [.inr (8, [.ref 1, .ref 2, .ref 4, .ref 5, .null, .null, .null, .null]), .inr (0, [.int 3, .int 3, .int 3, .int 0, .int 0, .int 7399, .int 7]), .inr (3, [.ref 1, .ref 3, .int 0, .int 0]), .inl (0, 16, .inl (fun _ => 0)), .inr (5, [.ref 1]), .inr (2, [.ref 1, .ref 2, .ref 4, .ref 6, .ref 7, .ref 8, .int 3, .int 0]), .inl (0, 6, .inl (fiF (fun _ => 0) 1 6)), .inl (0, 102, .inl (fiF (fun _ => 0) 2 102)), .inl (0, 102, .inl (fun _ => 0)), .inr (4, [.ref 1, .ref 2, .ref 5, .null]), .inr (7, [.null, .int 0]), .inl (1, 272, .inl (fun _ => 0))]
def wk_39 : List va_E := [.inr (8, [.ref 1, .ref 2, .ref 4, .ref 5, .null, .null, .null, .null]), .inr (0, [.int 3, .int 3, .int 3, .int 0, .int 0, .int 7399, .int 7]), .inr (3, [.ref 1, .ref 3, .int 0, .int 0]), .inl (0, 16, .inl (fun _ => 0)), .inr (5, [.ref 1]), .inr (2, [.ref 1, .ref 2, .ref 4, .ref 6, .ref 7, .ref 8, .int 3, .int 0]), .inl (0, 6, .inl (fiF (fun _ => 0) 1 6)), .inl (0, 102, .inl (fiF (fun _ => 0) 2 102)), .inl (0, 102, .inl (fun _ => 0)), .inr (4, [.ref 1, .ref 2, .ref 5, .null]), .inr (7, [.ref 11, .int 0]), .inl (1, 272, .inl (fun _ => 0))]
set_option maxHeartbeats 4000000 in
set_option maxRecDepth 100000 in
theorem mk_X7_init_10 : Cal 1 mX7_init [.ref 10] wk_37 1 272 none wk_39 := by
  refine Cal.of (by decide) (g_cats rfl) (Nat.le_of_ble_eq_true rfl) ?_
  refine go_aload_n (q := 1) dX7_init_0 rfl rfl ?_
  refine go_obj (q := 4) dX7_init_1 kw_28 (by decide) (Nat.le_of_ble_eq_true rfl) rfl ?_
  refine go_aload_n (q := 5) dX7_init_4 rfl rfl ?_
  refine go_sipush (v := 272) (q := 8) dX7_init_5 (by decide) rfl ?_
  refine go_newa (kd := 1) (ty := .byte) (N := 272) (lw := 11) (k2 := 1) (n2 := 272) (w2 := wk_38) (q := 10) dX7_init_8 kw_29 rfl (fun _ => rfl) (fun _ _ h => h) rfl (by decide) (by decide) (by decide) rfl (by decide) ⟨rfl, rfl⟩ ⟨by decide, by decide⟩ rfl rfl ?_
  refine go_putF (w2 := wk_39) (q := 13) dX7_init_10 rfl fX7_11 rfl (Nat.le_of_ble_eq_true rfl) (fun _ => rfl) (fun _ => rfl) rfl rfl ?_
  exact go_ret dX7_init_13 rfl (Nat.le_refl _) (Nat.le_refl _) ⟨rfl, rfl⟩
def wk_40 : List va_E := [.inr (8, [.ref 1, .ref 2, .ref 4, .ref 5, .null, .null, .null, .null]), .inr (0, [.int 3, .int 3, .int 3, .int 0, .int 0, .int 7399, .int 7]), .inr (3, [.ref 1, .ref 3, .int 0, .int 0]), .inl (0, 16, .inl (fun _ => 0)), .inr (5, [.ref 1]), .inr (2, [.ref 1, .ref 2, .ref 4, .ref 6, .ref 7, .ref 8, .int 3, .int 0]), .inl (0, 6, .inl (fiF (fun _ => 0) 1 6)), .inl (0, 102, .inl (fiF (fun _ => 0) 2 102)), .inl (0, 102, .inl (fun _ => 0)), .inr (4, [.ref 1, .ref 2, .ref 5, .ref 10]), .inr (7, [.ref 11, .int 0]), .inl (1, 272, .inl (fun _ => 0))]
set_option maxHeartbeats 4000000 in
set_option maxRecDepth 100000 in
theorem mk_X4_init_9 : Cal 2 mX4_init [.ref 9, .ref 1, .ref 2, .ref 5] wk_33 2 274 none wk_40 := by
  refine Cal.of (by decide) (g_cats rfl) (Nat.le_of_ble_eq_true rfl) ?_
  refine go_aload_n (q := 1) dX4_init_0 rfl rfl ?_
  refine go_obj (q := 4) dX4_init_1 kw_24 (by decide) (Nat.le_of_ble_eq_true rfl) rfl ?_
  refine go_aload_n (q := 5) dX4_init_4 rfl rfl ?_
  refine go_aload_n (q := 6) dX4_init_5 rfl rfl ?_
  refine go_putF (w2 := wk_34) (q := 9) dX4_init_6 rfl fX4_7 rfl (Nat.le_of_ble_eq_true rfl) (fun _ => rfl) (fun _ => rfl) rfl rfl ?_
  refine go_aload_n (q := 10) dX4_init_9 rfl rfl ?_
  refine go_aload_n (q := 11) dX4_init_10 rfl rfl ?_
  refine go_putF (w2 := wk_35) (q := 14) dX4_init_11 rfl fX4_13 rfl (Nat.le_of_ble_eq_true rfl) (fun _ => rfl) (fun _ => rfl) rfl rfl ?_
  refine go_aload_n (q := 15) dX4_init_14 rfl rfl ?_
  refine go_aload_n (q := 16) dX4_init_15 rfl rfl ?_
  refine go_putF (w2 := wk_36) (q := 19) dX4_init_16 rfl fX4_17 rfl (Nat.le_of_ble_eq_true rfl) (fun _ => rfl) (fun _ => rfl) rfl rfl ?_
  refine go_aload_n (q := 20) dX4_init_19 rfl rfl ?_
  refine go_new (fs := [.null, .int 0]) (ty0 := tyX7) (lw := 10) (k2 := 1) (n2 := 2) (w2 := wk_37) (q := 23) dX4_init_20 kw_25 kw_26 kw_27 (ci := 7) rfl inX7 tyX7_ok (fun j hj => by revert j; decide +kernel) (fun _ => rfl) rfl (by decide) ⟨rfl, rfl⟩ ⟨by decide, by decide⟩ rfl rfl ?_
  refine go_dup (q := 24) dX4_init_23 rfl rfl ?_
  refine go_callI2 (q := 27) (as := []) (rest := [.ref 10, .ref 9]) (k2 := 2) (n2 := 274) dX4_init_24 cX4_23 mk_X7_init_10 rfl rfl rfl (Nat.le_of_ble_eq_true rfl) (by decide) ⟨rfl, rfl⟩ ⟨by decide, by decide⟩ rfl ?_
  refine go_putF (w2 := wk_40) (q := 30) dX4_init_27 rfl fX4_24 rfl (Nat.le_of_ble_eq_true rfl) (fun _ => rfl) (fun _ => rfl) rfl rfl ?_
  exact go_ret dX4_init_30 rfl (Nat.le_refl _) (Nat.le_refl _) ⟨rfl, rfl⟩
def wk_41 : List va_E := [.inr (8, [.ref 1, .ref 2, .ref 4, .ref 5, .ref 9, .null, .null, .null]), .inr (0, [.int 3, .int 3, .int 3, .int 0, .int 0, .int 7399, .int 7]), .inr (3, [.ref 1, .ref 3, .int 0, .int 0]), .inl (0, 16, .inl (fun _ => 0)), .inr (5, [.ref 1]), .inr (2, [.ref 1, .ref 2, .ref 4, .ref 6, .ref 7, .ref 8, .int 3, .int 0]), .inl (0, 6, .inl (fiF (fun _ => 0) 1 6)), .inl (0, 102, .inl (fiF (fun _ => 0) 2 102)), .inl (0, 102, .inl (fun _ => 0)), .inr (4, [.ref 1, .ref 2, .ref 5, .ref 10]), .inr (7, [.ref 11, .int 0]), .inl (1, 272, .inl (fun _ => 0))]
theorem kw_30 : Cond.classLink RX8 50 RX1 ∈ gT := gT_t (i := 172) (by decide +kernel) rfl
theorem kw_31 : Cond.instantiable RX1 7 ∈ gT := gT_t (i := 173) (by decide +kernel) rfl
theorem kw_32 : Cond.initialized RX1 ∈ gT := gT_t (i := 10) (by decide +kernel) rfl
def wk_42 : List va_E := [.inr (8, [.ref 1, .ref 2, .ref 4, .ref 5, .ref 9, .null, .null, .null]), .inr (0, [.int 3, .int 3, .int 3, .int 0, .int 0, .int 7399, .int 7]), .inr (3, [.ref 1, .ref 3, .int 0, .int 0]), .inl (0, 16, .inl (fun _ => 0)), .inr (5, [.ref 1]), .inr (2, [.ref 1, .ref 2, .ref 4, .ref 6, .ref 7, .ref 8, .int 3, .int 0]), .inl (0, 6, .inl (fiF (fun _ => 0) 1 6)), .inl (0, 102, .inl (fiF (fun _ => 0) 2 102)), .inl (0, 102, .inl (fun _ => 0)), .inr (4, [.ref 1, .ref 2, .ref 5, .ref 10]), .inr (7, [.ref 11, .int 0]), .inl (1, 272, .inl (fun _ => 0)), .inr (1, [.null, .null, .null, .int 0, .null, .null, .null])]
theorem kw_33 : Cond.methodLink RX1 3 objectInit ∈ gT := gT_t (i := 177) (by decide +kernel) rfl
def wk_43 : List va_E := [.inr (8, [.ref 1, .ref 2, .ref 4, .ref 5, .ref 9, .null, .null, .null]), .inr (0, [.int 3, .int 3, .int 3, .int 0, .int 0, .int 7399, .int 7]), .inr (3, [.ref 1, .ref 3, .int 0, .int 0]), .inl (0, 16, .inl (fun _ => 0)), .inr (5, [.ref 1]), .inr (2, [.ref 1, .ref 2, .ref 4, .ref 6, .ref 7, .ref 8, .int 3, .int 0]), .inl (0, 6, .inl (fiF (fun _ => 0) 1 6)), .inl (0, 102, .inl (fiF (fun _ => 0) 2 102)), .inl (0, 102, .inl (fun _ => 0)), .inr (4, [.ref 1, .ref 2, .ref 5, .ref 10]), .inr (7, [.ref 11, .int 0]), .inl (1, 272, .inl (fun _ => 0)), .inr (1, [.null, .null, .null, .int 0, .null, .null, .null]), .inl (0, 12, .inl (fun _ => 0))]
def wk_44 : List va_E := [.inr (8, [.ref 1, .ref 2, .ref 4, .ref 5, .ref 9, .null, .null, .null]), .inr (0, [.int 3, .int 3, .int 3, .int 0, .int 0, .int 7399, .int 7]), .inr (3, [.ref 1, .ref 3, .int 0, .int 0]), .inl (0, 16, .inl (fun _ => 0)), .inr (5, [.ref 1]), .inr (2, [.ref 1, .ref 2, .ref 4, .ref 6, .ref 7, .ref 8, .int 3, .int 0]), .inl (0, 6, .inl (fiF (fun _ => 0) 1 6)), .inl (0, 102, .inl (fiF (fun _ => 0) 2 102)), .inl (0, 102, .inl (fun _ => 0)), .inr (4, [.ref 1, .ref 2, .ref 5, .ref 10]), .inr (7, [.ref 11, .int 0]), .inl (1, 272, .inl (fun _ => 0)), .inr (1, [.ref 13, .null, .null, .int 0, .null, .null, .null]), .inl (0, 12, .inl (fun _ => 0))]
def wk_45 : List va_E := [.inr (8, [.ref 1, .ref 2, .ref 4, .ref 5, .ref 9, .null, .null, .null]), .inr (0, [.int 3, .int 3, .int 3, .int 0, .int 0, .int 7399, .int 7]), .inr (3, [.ref 1, .ref 3, .int 0, .int 0]), .inl (0, 16, .inl (fun _ => 0)), .inr (5, [.ref 1]), .inr (2, [.ref 1, .ref 2, .ref 4, .ref 6, .ref 7, .ref 8, .int 3, .int 0]), .inl (0, 6, .inl (fiF (fun _ => 0) 1 6)), .inl (0, 102, .inl (fiF (fun _ => 0) 2 102)), .inl (0, 102, .inl (fun _ => 0)), .inr (4, [.ref 1, .ref 2, .ref 5, .ref 10]), .inr (7, [.ref 11, .int 0]), .inl (1, 272, .inl (fun _ => 0)), .inr (1, [.ref 13, .null, .null, .int 0, .null, .null, .null]), .inl (0, 12, .inl (fun _ => 0)), .inl (0, 12, .inl (fun _ => 0))]
def wk_46 : List va_E := [.inr (8, [.ref 1, .ref 2, .ref 4, .ref 5, .ref 9, .null, .null, .null]), .inr (0, [.int 3, .int 3, .int 3, .int 0, .int 0, .int 7399, .int 7]), .inr (3, [.ref 1, .ref 3, .int 0, .int 0]), .inl (0, 16, .inl (fun _ => 0)), .inr (5, [.ref 1]), .inr (2, [.ref 1, .ref 2, .ref 4, .ref 6, .ref 7, .ref 8, .int 3, .int 0]), .inl (0, 6, .inl (fiF (fun _ => 0) 1 6)), .inl (0, 102, .inl (fiF (fun _ => 0) 2 102)), .inl (0, 102, .inl (fun _ => 0)), .inr (4, [.ref 1, .ref 2, .ref 5, .ref 10]), .inr (7, [.ref 11, .int 0]), .inl (1, 272, .inl (fun _ => 0)), .inr (1, [.ref 13, .ref 14, .null, .int 0, .null, .null, .null]), .inl (0, 12, .inl (fun _ => 0)), .inl (0, 12, .inl (fun _ => 0))]
def wk_47 : List va_E := [.inr (8, [.ref 1, .ref 2, .ref 4, .ref 5, .ref 9, .null, .null, .null]), .inr (0, [.int 3, .int 3, .int 3, .int 0, .int 0, .int 7399, .int 7]), .inr (3, [.ref 1, .ref 3, .int 0, .int 0]), .inl (0, 16, .inl (fun _ => 0)), .inr (5, [.ref 1]), .inr (2, [.ref 1, .ref 2, .ref 4, .ref 6, .ref 7, .ref 8, .int 3, .int 0]), .inl (0, 6, .inl (fiF (fun _ => 0) 1 6)), .inl (0, 102, .inl (fiF (fun _ => 0) 2 102)), .inl (0, 102, .inl (fun _ => 0)), .inr (4, [.ref 1, .ref 2, .ref 5, .ref 10]), .inr (7, [.ref 11, .int 0]), .inl (1, 272, .inl (fun _ => 0)), .inr (1, [.ref 13, .ref 14, .null, .int 0, .null, .null, .null]), .inl (0, 12, .inl (fun _ => 0)), .inl (0, 12, .inl (fun _ => 0)), .inl (0, 12, .inl (fun _ => 0))]
def wk_48 : List va_E := [.inr (8, [.ref 1, .ref 2, .ref 4, .ref 5, .ref 9, .null, .null, .null]), .inr (0, [.int 3, .int 3, .int 3, .int 0, .int 0, .int 7399, .int 7]), .inr (3, [.ref 1, .ref 3, .int 0, .int 0]), .inl (0, 16, .inl (fun _ => 0)), .inr (5, [.ref 1]), .inr (2, [.ref 1, .ref 2, .ref 4, .ref 6, .ref 7, .ref 8, .int 3, .int 0]), .inl (0, 6, .inl (fiF (fun _ => 0) 1 6)), .inl (0, 102, .inl (fiF (fun _ => 0) 2 102)), .inl (0, 102, .inl (fun _ => 0)), .inr (4, [.ref 1, .ref 2, .ref 5, .ref 10]), .inr (7, [.ref 11, .int 0]), .inl (1, 272, .inl (fun _ => 0)), .inr (1, [.ref 13, .ref 14, .ref 15, .int 0, .null, .null, .null]), .inl (0, 12, .inl (fun _ => 0)), .inl (0, 12, .inl (fun _ => 0)), .inl (0, 12, .inl (fun _ => 0))]
def wk_49 : List va_E := [.inr (8, [.ref 1, .ref 2, .ref 4, .ref 5, .ref 9, .null, .null, .null]), .inr (0, [.int 3, .int 3, .int 3, .int 0, .int 0, .int 7399, .int 7]), .inr (3, [.ref 1, .ref 3, .int 0, .int 0]), .inl (0, 16, .inl (fun _ => 0)), .inr (5, [.ref 1]), .inr (2, [.ref 1, .ref 2, .ref 4, .ref 6, .ref 7, .ref 8, .int 3, .int 0]), .inl (0, 6, .inl (fiF (fun _ => 0) 1 6)), .inl (0, 102, .inl (fiF (fun _ => 0) 2 102)), .inl (0, 102, .inl (fun _ => 0)), .inr (4, [.ref 1, .ref 2, .ref 5, .ref 10]), .inr (7, [.ref 11, .int 0]), .inl (1, 272, .inl (fun _ => 0)), .inr (1, [.ref 13, .ref 14, .ref 15, .int 0, .null, .null, .null]), .inl (0, 12, .inl (fun _ => 0)), .inl (0, 12, .inl (fun _ => 0)), .inl (0, 12, .inl (fun _ => 0)), .inl (0, 202, .inl (fun _ => 0))]
def wk_50 : List va_E := [.inr (8, [.ref 1, .ref 2, .ref 4, .ref 5, .ref 9, .null, .null, .null]), .inr (0, [.int 3, .int 3, .int 3, .int 0, .int 0, .int 7399, .int 7]), .inr (3, [.ref 1, .ref 3, .int 0, .int 0]), .inl (0, 16, .inl (fun _ => 0)), .inr (5, [.ref 1]), .inr (2, [.ref 1, .ref 2, .ref 4, .ref 6, .ref 7, .ref 8, .int 3, .int 0]), .inl (0, 6, .inl (fiF (fun _ => 0) 1 6)), .inl (0, 102, .inl (fiF (fun _ => 0) 2 102)), .inl (0, 102, .inl (fun _ => 0)), .inr (4, [.ref 1, .ref 2, .ref 5, .ref 10]), .inr (7, [.ref 11, .int 0]), .inl (1, 272, .inl (fun _ => 0)), .inr (1, [.ref 13, .ref 14, .ref 15, .int 0, .ref 16, .null, .null]), .inl (0, 12, .inl (fun _ => 0)), .inl (0, 12, .inl (fun _ => 0)), .inl (0, 12, .inl (fun _ => 0)), .inl (0, 202, .inl (fun _ => 0))]
def wk_51 : List va_E := [.inr (8, [.ref 1, .ref 2, .ref 4, .ref 5, .ref 9, .null, .null, .null]), .inr (0, [.int 3, .int 3, .int 3, .int 0, .int 0, .int 7399, .int 7]), .inr (3, [.ref 1, .ref 3, .int 0, .int 0]), .inl (0, 16, .inl (fun _ => 0)), .inr (5, [.ref 1]), .inr (2, [.ref 1, .ref 2, .ref 4, .ref 6, .ref 7, .ref 8, .int 3, .int 0]), .inl (0, 6, .inl (fiF (fun _ => 0) 1 6)), .inl (0, 102, .inl (fiF (fun _ => 0) 2 102)), .inl (0, 102, .inl (fun _ => 0)), .inr (4, [.ref 1, .ref 2, .ref 5, .ref 10]), .inr (7, [.ref 11, .int 0]), .inl (1, 272, .inl (fun _ => 0)), .inr (1, [.ref 13, .ref 14, .ref 15, .int 0, .ref 16, .null, .null]), .inl (0, 12, .inl (fun _ => 0)), .inl (0, 12, .inl (fun _ => 0)), .inl (0, 12, .inl (fun _ => 0)), .inl (0, 202, .inl (fun _ => 0)), .inl (0, 202, .inl (fun _ => 0))]
def wk_52 : List va_E := [.inr (8, [.ref 1, .ref 2, .ref 4, .ref 5, .ref 9, .null, .null, .null]), .inr (0, [.int 3, .int 3, .int 3, .int 0, .int 0, .int 7399, .int 7]), .inr (3, [.ref 1, .ref 3, .int 0, .int 0]), .inl (0, 16, .inl (fun _ => 0)), .inr (5, [.ref 1]), .inr (2, [.ref 1, .ref 2, .ref 4, .ref 6, .ref 7, .ref 8, .int 3, .int 0]), .inl (0, 6, .inl (fiF (fun _ => 0) 1 6)), .inl (0, 102, .inl (fiF (fun _ => 0) 2 102)), .inl (0, 102, .inl (fun _ => 0)), .inr (4, [.ref 1, .ref 2, .ref 5, .ref 10]), .inr (7, [.ref 11, .int 0]), .inl (1, 272, .inl (fun _ => 0)), .inr (1, [.ref 13, .ref 14, .ref 15, .int 0, .ref 16, .ref 17, .null]), .inl (0, 12, .inl (fun _ => 0)), .inl (0, 12, .inl (fun _ => 0)), .inl (0, 12, .inl (fun _ => 0)), .inl (0, 202, .inl (fun _ => 0)), .inl (0, 202, .inl (fun _ => 0))]
def wk_53 : List va_E := [.inr (8, [.ref 1, .ref 2, .ref 4, .ref 5, .ref 9, .null, .null, .null]), .inr (0, [.int 3, .int 3, .int 3, .int 0, .int 0, .int 7399, .int 7]), .inr (3, [.ref 1, .ref 3, .int 0, .int 0]), .inl (0, 16, .inl (fun _ => 0)), .inr (5, [.ref 1]), .inr (2, [.ref 1, .ref 2, .ref 4, .ref 6, .ref 7, .ref 8, .int 3, .int 0]), .inl (0, 6, .inl (fiF (fun _ => 0) 1 6)), .inl (0, 102, .inl (fiF (fun _ => 0) 2 102)), .inl (0, 102, .inl (fun _ => 0)), .inr (4, [.ref 1, .ref 2, .ref 5, .ref 10]), .inr (7, [.ref 11, .int 0]), .inl (1, 272, .inl (fun _ => 0)), .inr (1, [.ref 13, .ref 14, .ref 15, .int 0, .ref 16, .ref 17, .null]), .inl (0, 12, .inl (fun _ => 0)), .inl (0, 12, .inl (fun _ => 0)), .inl (0, 12, .inl (fun _ => 0)), .inl (0, 202, .inl (fun _ => 0)), .inl (0, 202, .inl (fun _ => 0)), .inl (0, 202, .inl (fun _ => 0))]
def wk_54 : List va_E := [.inr (8, [.ref 1, .ref 2, .ref 4, .ref 5, .ref 9, .null, .null, .null]), .inr (0, [.int 3, .int 3, .int 3, .int 0, .int 0, .int 7399, .int 7]), .inr (3, [.ref 1, .ref 3, .int 0, .int 0]), .inl (0, 16, .inl (fun _ => 0)), .inr (5, [.ref 1]), .inr (2, [.ref 1, .ref 2, .ref 4, .ref 6, .ref 7, .ref 8, .int 3, .int 0]), .inl (0, 6, .inl (fiF (fun _ => 0) 1 6)), .inl (0, 102, .inl (fiF (fun _ => 0) 2 102)), .inl (0, 102, .inl (fun _ => 0)), .inr (4, [.ref 1, .ref 2, .ref 5, .ref 10]), .inr (7, [.ref 11, .int 0]), .inl (1, 272, .inl (fun _ => 0)), .inr (1, [.ref 13, .ref 14, .ref 15, .int 0, .ref 16, .ref 17, .ref 18]), .inl (0, 12, .inl (fun _ => 0)), .inl (0, 12, .inl (fun _ => 0)), .inl (0, 12, .inl (fun _ => 0)), .inl (0, 202, .inl (fun _ => 0)), .inl (0, 202, .inl (fun _ => 0)), .inl (0, 202, .inl (fun _ => 0))]
set_option maxHeartbeats 4000000 in
set_option maxRecDepth 100000 in
theorem mk_X1_init_12 : Cal 1 mX1_init [.ref 12] wk_42 6 642 none wk_54 := by
  refine Cal.of (by decide) (g_cats rfl) (Nat.le_of_ble_eq_true rfl) ?_
  refine go_aload_n (q := 1) dX1_init_0 rfl rfl ?_
  refine go_obj (q := 4) dX1_init_1 kw_33 (by decide) (Nat.le_of_ble_eq_true rfl) rfl ?_
  refine go_aload_n (q := 5) dX1_init_4 rfl rfl ?_
  refine go_bipush (v := 12) (q := 7) dX1_init_5 (by decide) rfl ?_
  refine go_newa (kd := 0) (ty := .int) (N := 12) (lw := 13) (k2 := 1) (n2 := 12) (w2 := wk_43) (q := 9) dX1_init_7 kw_12 rfl (fun _ => rfl) (fun _ _ h => h) rfl (by decide) (by decide) (by decide) rfl (by decide) ⟨rfl, rfl⟩ ⟨by decide, by decide⟩ rfl rfl ?_
  refine go_putF (w2 := wk_44) (q := 12) dX1_init_9 rfl fX1_11 rfl (Nat.le_of_ble_eq_true rfl) (fun _ => rfl) (fun _ => rfl) rfl rfl ?_
  refine go_aload_n (q := 13) dX1_init_12 rfl rfl ?_
  refine go_bipush (v := 12) (q := 15) dX1_init_13 (by decide) rfl ?_
  refine go_newa (kd := 0) (ty := .int) (N := 12) (lw := 14) (k2 := 2) (n2 := 24) (w2 := wk_45) (q := 17) dX1_init_15 kw_12 rfl (fun _ => rfl) (fun _ _ h => h) rfl (by decide) (by decide) (by decide) rfl (by decide) ⟨rfl, rfl⟩ ⟨by decide, by decide⟩ rfl rfl ?_
  refine go_putF (w2 := wk_46) (q := 20) dX1_init_17 rfl fX1_15 rfl (Nat.le_of_ble_eq_true rfl) (fun _ => rfl) (fun _ => rfl) rfl rfl ?_
  refine go_aload_n (q := 21) dX1_init_20 rfl rfl ?_
  refine go_bipush (v := 12) (q := 23) dX1_init_21 (by decide) rfl ?_
  refine go_newa (kd := 0) (ty := .int) (N := 12) (lw := 15) (k2 := 3) (n2 := 36) (w2 := wk_47) (q := 25) dX1_init_23 kw_12 rfl (fun _ => rfl) (fun _ _ h => h) rfl (by decide) (by decide) (by decide) rfl (by decide) ⟨rfl, rfl⟩ ⟨by decide, by decide⟩ rfl rfl ?_
  refine go_putF (w2 := wk_48) (q := 28) dX1_init_25 rfl fX1_18 rfl (Nat.le_of_ble_eq_true rfl) (fun _ => rfl) (fun _ => rfl) rfl rfl ?_
  refine go_aload_n (q := 29) dX1_init_28 rfl rfl ?_
  refine go_sipush (v := 202) (q := 32) dX1_init_29 (by decide) rfl ?_
  refine go_newa (kd := 0) (ty := .int) (N := 202) (lw := 16) (k2 := 4) (n2 := 238) (w2 := wk_49) (q := 34) dX1_init_32 kw_12 rfl (fun _ => rfl) (fun _ _ h => h) rfl (by decide) (by decide) (by decide) rfl (by decide) ⟨rfl, rfl⟩ ⟨by decide, by decide⟩ rfl rfl ?_
  refine go_putF (w2 := wk_50) (q := 37) dX1_init_34 rfl fX1_21 rfl (Nat.le_of_ble_eq_true rfl) (fun _ => rfl) (fun _ => rfl) rfl rfl ?_
  refine go_aload_n (q := 38) dX1_init_37 rfl rfl ?_
  refine go_sipush (v := 202) (q := 41) dX1_init_38 (by decide) rfl ?_
  refine go_newa (kd := 0) (ty := .int) (N := 202) (lw := 17) (k2 := 5) (n2 := 440) (w2 := wk_51) (q := 43) dX1_init_41 kw_12 rfl (fun _ => rfl) (fun _ _ h => h) rfl (by decide) (by decide) (by decide) rfl (by decide) ⟨rfl, rfl⟩ ⟨by decide, by decide⟩ rfl rfl ?_
  refine go_putF (w2 := wk_52) (q := 46) dX1_init_43 rfl fX1_24 rfl (Nat.le_of_ble_eq_true rfl) (fun _ => rfl) (fun _ => rfl) rfl rfl ?_
  refine go_aload_n (q := 47) dX1_init_46 rfl rfl ?_
  refine go_sipush (v := 202) (q := 50) dX1_init_47 (by decide) rfl ?_
  refine go_newa (kd := 0) (ty := .int) (N := 202) (lw := 18) (k2 := 6) (n2 := 642) (w2 := wk_53) (q := 52) dX1_init_50 kw_12 rfl (fun _ => rfl) (fun _ _ h => h) rfl (by decide) (by decide) (by decide) rfl (by decide) ⟨rfl, rfl⟩ ⟨by decide, by decide⟩ rfl rfl ?_
  refine go_putF (w2 := wk_54) (q := 55) dX1_init_52 rfl fX1_27 rfl (Nat.le_of_ble_eq_true rfl) (fun _ => rfl) (fun _ => rfl) rfl rfl ?_
  exact go_ret dX1_init_55 rfl (Nat.le_refl _) (Nat.le_refl _) ⟨rfl, rfl⟩
def wk_55 : List va_E := [.inr (8, [.ref 1, .ref 2, .ref 4, .ref 5, .ref 9, .ref 12, .null, .null]), .inr (0, [.int 3, .int 3, .int 3, .int 0, .int 0, .int 7399, .int 7]), .inr (3, [.ref 1, .ref 3, .int 0, .int 0]), .inl (0, 16, .inl (fun _ => 0)), .inr (5, [.ref 1]), .inr (2, [.ref 1, .ref 2, .ref 4, .ref 6, .ref 7, .ref 8, .int 3, .int 0]), .inl (0, 6, .inl (fiF (fun _ => 0) 1 6)), .inl (0, 102, .inl (fiF (fun _ => 0) 2 102)), .inl (0, 102, .inl (fun _ => 0)), .inr (4, [.ref 1, .ref 2, .ref 5, .ref 10]), .inr (7, [.ref 11, .int 0]), .inl (1, 272, .inl (fun _ => 0)), .inr (1, [.ref 13, .ref 14, .ref 15, .int 0, .ref 16, .ref 17, .ref 18]), .inl (0, 12, .inl (fun _ => 0)), .inl (0, 12, .inl (fun _ => 0)), .inl (0, 12, .inl (fun _ => 0)), .inl (0, 202, .inl (fun _ => 0)), .inl (0, 202, .inl (fun _ => 0)), .inl (0, 202, .inl (fun _ => 0))]
theorem kw_34 : Cond.classLink RX8 57 RX6 ∈ gT := gT_t (i := 200) (by decide +kernel) rfl
theorem kw_35 : Cond.instantiable RX6 6 ∈ gT := gT_t (i := 201) (by decide +kernel) rfl
theorem kw_36 : Cond.initialized RX6 ∈ gT := gT_t (i := 11) (by decide +kernel) rfl
def wk_56 : List va_E := [.inr (8, [.ref 1, .ref 2, .ref 4, .ref 5, .ref 9, .ref 12, .null, .null]), .inr (0, [.int 3, .int 3, .int 3, .int 0, .int 0, .int 7399, .int 7]), .inr (3, [.ref 1, .ref 3, .int 0, .int 0]), .inl (0, 16, .inl (fun _ => 0)), .inr (5, [.ref 1]), .inr (2, [.ref 1, .ref 2, .ref 4, .ref 6, .ref 7, .ref 8, .int 3, .int 0]), .inl (0, 6, .inl (fiF (fun _ => 0) 1 6)), .inl (0, 102, .inl (fiF (fun _ => 0) 2 102)), .inl (0, 102, .inl (fun _ => 0)), .inr (4, [.ref 1, .ref 2, .ref 5, .ref 10]), .inr (7, [.ref 11, .int 0]), .inl (1, 272, .inl (fun _ => 0)), .inr (1, [.ref 13, .ref 14, .ref 15, .int 0, .ref 16, .ref 17, .ref 18]), .inl (0, 12, .inl (fun _ => 0)), .inl (0, 12, .inl (fun _ => 0)), .inl (0, 12, .inl (fun _ => 0)), .inl (0, 202, .inl (fun _ => 0)), .inl (0, 202, .inl (fun _ => 0)), .inl (0, 202, .inl (fun _ => 0)), .inr (6, [.null, .int 0, .int 0, .int 0, .int 0, .int 0])]
theorem kw_37 : Cond.methodLink RX6 3 objectInit ∈ gT := gT_t (i := 205) (by decide +kernel) rfl
def wk_57 : List va_E := [.inr (8, [.ref 1, .ref 2, .ref 4, .ref 5, .ref 9, .ref 12, .null, .null]), .inr (0, [.int 3, .int 3, .int 3, .int 0, .int 0, .int 7399, .int 7]), .inr (3, [.ref 1, .ref 3, .int 0, .int 0]), .inl (0, 16, .inl (fun _ => 0)), .inr (5, [.ref 1]), .inr (2, [.ref 1, .ref 2, .ref 4, .ref 6, .ref 7, .ref 8, .int 3, .int 0]), .inl (0, 6, .inl (fiF (fun _ => 0) 1 6)), .inl (0, 102, .inl (fiF (fun _ => 0) 2 102)), .inl (0, 102, .inl (fun _ => 0)), .inr (4, [.ref 1, .ref 2, .ref 5, .ref 10]), .inr (7, [.ref 11, .int 0]), .inl (1, 272, .inl (fun _ => 0)), .inr (1, [.ref 13, .ref 14, .ref 15, .int 0, .ref 16, .ref 17, .ref 18]), .inl (0, 12, .inl (fun _ => 0)), .inl (0, 12, .inl (fun _ => 0)), .inl (0, 12, .inl (fun _ => 0)), .inl (0, 202, .inl (fun _ => 0)), .inl (0, 202, .inl (fun _ => 0)), .inl (0, 202, .inl (fun _ => 0)), .inr (6, [.null, .int 0, .int 0, .int 0, .int 0, .int 0]), .inl (0, 120, .inl (fun _ => 0))]
def wk_58 : List va_E := [.inr (8, [.ref 1, .ref 2, .ref 4, .ref 5, .ref 9, .ref 12, .null, .null]), .inr (0, [.int 3, .int 3, .int 3, .int 0, .int 0, .int 7399, .int 7]), .inr (3, [.ref 1, .ref 3, .int 0, .int 0]), .inl (0, 16, .inl (fun _ => 0)), .inr (5, [.ref 1]), .inr (2, [.ref 1, .ref 2, .ref 4, .ref 6, .ref 7, .ref 8, .int 3, .int 0]), .inl (0, 6, .inl (fiF (fun _ => 0) 1 6)), .inl (0, 102, .inl (fiF (fun _ => 0) 2 102)), .inl (0, 102, .inl (fun _ => 0)), .inr (4, [.ref 1, .ref 2, .ref 5, .ref 10]), .inr (7, [.ref 11, .int 0]), .inl (1, 272, .inl (fun _ => 0)), .inr (1, [.ref 13, .ref 14, .ref 15, .int 0, .ref 16, .ref 17, .ref 18]), .inl (0, 12, .inl (fun _ => 0)), .inl (0, 12, .inl (fun _ => 0)), .inl (0, 12, .inl (fun _ => 0)), .inl (0, 202, .inl (fun _ => 0)), .inl (0, 202, .inl (fun _ => 0)), .inl (0, 202, .inl (fun _ => 0)), .inr (6, [.ref 20, .int 0, .int 0, .int 0, .int 0, .int 0]), .inl (0, 120, .inl (fun _ => 0))]
set_option maxHeartbeats 4000000 in
set_option maxRecDepth 100000 in
theorem mk_X6_init_19 : Cal 1 mX6_init [.ref 19] wk_56 1 120 none wk_58 := by
  refine Cal.of (by decide) (g_cats rfl) (Nat.le_of_ble_eq_true rfl) ?_
  refine go_aload_n (q := 1) dX6_init_0 rfl rfl ?_
  refine go_obj (q := 4) dX6_init_1 kw_37 (by decide) (Nat.le_of_ble_eq_true rfl) rfl ?_
  refine go_aload_n (q := 5) dX6_init_4 rfl rfl ?_
  refine go_bipush (v := 120) (q := 7) dX6_init_5 (by decide) rfl ?_
  refine go_newa (kd := 0) (ty := .int) (N := 120) (lw := 20) (k2 := 1) (n2 := 120) (w2 := wk_57) (q := 9) dX6_init_7 kw_12 rfl (fun _ => rfl) (fun _ _ h => h) rfl (by decide) (by decide) (by decide) rfl (by decide) ⟨rfl, rfl⟩ ⟨by decide, by decide⟩ rfl rfl ?_
  refine go_putF (w2 := wk_58) (q := 12) dX6_init_9 rfl fX6_11 rfl (Nat.le_of_ble_eq_true rfl) (fun _ => rfl) (fun _ => rfl) rfl rfl ?_
  exact go_ret dX6_init_12 rfl (Nat.le_refl _) (Nat.le_refl _) ⟨rfl, rfl⟩
def wk_59 : List va_E := [.inr (8, [.ref 1, .ref 2, .ref 4, .ref 5, .ref 9, .ref 12, .ref 19, .null]), .inr (0, [.int 3, .int 3, .int 3, .int 0, .int 0, .int 7399, .int 7]), .inr (3, [.ref 1, .ref 3, .int 0, .int 0]), .inl (0, 16, .inl (fun _ => 0)), .inr (5, [.ref 1]), .inr (2, [.ref 1, .ref 2, .ref 4, .ref 6, .ref 7, .ref 8, .int 3, .int 0]), .inl (0, 6, .inl (fiF (fun _ => 0) 1 6)), .inl (0, 102, .inl (fiF (fun _ => 0) 2 102)), .inl (0, 102, .inl (fun _ => 0)), .inr (4, [.ref 1, .ref 2, .ref 5, .ref 10]), .inr (7, [.ref 11, .int 0]), .inl (1, 272, .inl (fun _ => 0)), .inr (1, [.ref 13, .ref 14, .ref 15, .int 0, .ref 16, .ref 17, .ref 18]), .inl (0, 12, .inl (fun _ => 0)), .inl (0, 12, .inl (fun _ => 0)), .inl (0, 12, .inl (fun _ => 0)), .inl (0, 202, .inl (fun _ => 0)), .inl (0, 202, .inl (fun _ => 0)), .inl (0, 202, .inl (fun _ => 0)), .inr (6, [.ref 20, .int 0, .int 0, .int 0, .int 0, .int 0]), .inl (0, 120, .inl (fun _ => 0))]
theorem kw_38 : Cond.classLink RX8 64 RX7 ∈ gT := gT_t (i := 230) (by decide +kernel) rfl
def wk_60 : List va_E := [.inr (8, [.ref 1, .ref 2, .ref 4, .ref 5, .ref 9, .ref 12, .ref 19, .null]), .inr (0, [.int 3, .int 3, .int 3, .int 0, .int 0, .int 7399, .int 7]), .inr (3, [.ref 1, .ref 3, .int 0, .int 0]), .inl (0, 16, .inl (fun _ => 0)), .inr (5, [.ref 1]), .inr (2, [.ref 1, .ref 2, .ref 4, .ref 6, .ref 7, .ref 8, .int 3, .int 0]), .inl (0, 6, .inl (fiF (fun _ => 0) 1 6)), .inl (0, 102, .inl (fiF (fun _ => 0) 2 102)), .inl (0, 102, .inl (fun _ => 0)), .inr (4, [.ref 1, .ref 2, .ref 5, .ref 10]), .inr (7, [.ref 11, .int 0]), .inl (1, 272, .inl (fun _ => 0)), .inr (1, [.ref 13, .ref 14, .ref 15, .int 0, .ref 16, .ref 17, .ref 18]), .inl (0, 12, .inl (fun _ => 0)), .inl (0, 12, .inl (fun _ => 0)), .inl (0, 12, .inl (fun _ => 0)), .inl (0, 202, .inl (fun _ => 0)), .inl (0, 202, .inl (fun _ => 0)), .inl (0, 202, .inl (fun _ => 0)), .inr (6, [.ref 20, .int 0, .int 0, .int 0, .int 0, .int 0]), .inl (0, 120, .inl (fun _ => 0)), .inr (7, [.null, .int 0])]
def wk_61 : List va_E := [.inr (8, [.ref 1, .ref 2, .ref 4, .ref 5, .ref 9, .ref 12, .ref 19, .null]), .inr (0, [.int 3, .int 3, .int 3, .int 0, .int 0, .int 7399, .int 7]), .inr (3, [.ref 1, .ref 3, .int 0, .int 0]), .inl (0, 16, .inl (fun _ => 0)), .inr (5, [.ref 1]), .inr (2, [.ref 1, .ref 2, .ref 4, .ref 6, .ref 7, .ref 8, .int 3, .int 0]), .inl (0, 6, .inl (fiF (fun _ => 0) 1 6)), .inl (0, 102, .inl (fiF (fun _ => 0) 2 102)), .inl (0, 102, .inl (fun _ => 0)), .inr (4, [.ref 1, .ref 2, .ref 5, .ref 10]), .inr (7, [.ref 11, .int 0]), .inl (1, 272, .inl (fun _ => 0)), .inr (1, [.ref 13, .ref 14, .ref 15, .int 0, .ref 16, .ref 17, .ref 18]), .inl (0, 12, .inl (fun _ => 0)), .inl (0, 12, .inl (fun _ => 0)), .inl (0, 12, .inl (fun _ => 0)), .inl (0, 202, .inl (fun _ => 0)), .inl (0, 202, .inl (fun _ => 0)), .inl (0, 202, .inl (fun _ => 0)), .inr (6, [.ref 20, .int 0, .int 0, .int 0, .int 0, .int 0]), .inl (0, 120, .inl (fun _ => 0)), .inr (7, [.null, .int 0]), .inl (1, 272, .inl (fun _ => 0))]
def wk_62 : List va_E := [.inr (8, [.ref 1, .ref 2, .ref 4, .ref 5, .ref 9, .ref 12, .ref 19, .null]), .inr (0, [.int 3, .int 3, .int 3, .int 0, .int 0, .int 7399, .int 7]), .inr (3, [.ref 1, .ref 3, .int 0, .int 0]), .inl (0, 16, .inl (fun _ => 0)), .inr (5, [.ref 1]), .inr (2, [.ref 1, .ref 2, .ref 4, .ref 6, .ref 7, .ref 8, .int 3, .int 0]), .inl (0, 6, .inl (fiF (fun _ => 0) 1 6)), .inl (0, 102, .inl (fiF (fun _ => 0) 2 102)), .inl (0, 102, .inl (fun _ => 0)), .inr (4, [.ref 1, .ref 2, .ref 5, .ref 10]), .inr (7, [.ref 11, .int 0]), .inl (1, 272, .inl (fun _ => 0)), .inr (1, [.ref 13, .ref 14, .ref 15, .int 0, .ref 16, .ref 17, .ref 18]), .inl (0, 12, .inl (fun _ => 0)), .inl (0, 12, .inl (fun _ => 0)), .inl (0, 12, .inl (fun _ => 0)), .inl (0, 202, .inl (fun _ => 0)), .inl (0, 202, .inl (fun _ => 0)), .inl (0, 202, .inl (fun _ => 0)), .inr (6, [.ref 20, .int 0, .int 0, .int 0, .int 0, .int 0]), .inl (0, 120, .inl (fun _ => 0)), .inr (7, [.ref 22, .int 0]), .inl (1, 272, .inl (fun _ => 0))]
set_option maxHeartbeats 4000000 in
set_option maxRecDepth 100000 in
theorem mk_X7_init_21 : Cal 1 mX7_init [.ref 21] wk_60 1 272 none wk_62 := by
  refine Cal.of (by decide) (g_cats rfl) (Nat.le_of_ble_eq_true rfl) ?_
  refine go_aload_n (q := 1) dX7_init_0 rfl rfl ?_
  refine go_obj (q := 4) dX7_init_1 kw_28 (by decide) (Nat.le_of_ble_eq_true rfl) rfl ?_
  refine go_aload_n (q := 5) dX7_init_4 rfl rfl ?_
  refine go_sipush (v := 272) (q := 8) dX7_init_5 (by decide) rfl ?_
  refine go_newa (kd := 1) (ty := .byte) (N := 272) (lw := 22) (k2 := 1) (n2 := 272) (w2 := wk_61) (q := 10) dX7_init_8 kw_29 rfl (fun _ => rfl) (fun _ _ h => h) rfl (by decide) (by decide) (by decide) rfl (by decide) ⟨rfl, rfl⟩ ⟨by decide, by decide⟩ rfl rfl ?_
  refine go_putF (w2 := wk_62) (q := 13) dX7_init_10 rfl fX7_11 rfl (Nat.le_of_ble_eq_true rfl) (fun _ => rfl) (fun _ => rfl) rfl rfl ?_
  exact go_ret dX7_init_13 rfl (Nat.le_refl _) (Nat.le_refl _) ⟨rfl, rfl⟩
def wk_63 : List va_E := [.inr (8, [.ref 1, .ref 2, .ref 4, .ref 5, .ref 9, .ref 12, .ref 19, .ref 21]), .inr (0, [.int 3, .int 3, .int 3, .int 0, .int 0, .int 7399, .int 7]), .inr (3, [.ref 1, .ref 3, .int 0, .int 0]), .inl (0, 16, .inl (fun _ => 0)), .inr (5, [.ref 1]), .inr (2, [.ref 1, .ref 2, .ref 4, .ref 6, .ref 7, .ref 8, .int 3, .int 0]), .inl (0, 6, .inl (fiF (fun _ => 0) 1 6)), .inl (0, 102, .inl (fiF (fun _ => 0) 2 102)), .inl (0, 102, .inl (fun _ => 0)), .inr (4, [.ref 1, .ref 2, .ref 5, .ref 10]), .inr (7, [.ref 11, .int 0]), .inl (1, 272, .inl (fun _ => 0)), .inr (1, [.ref 13, .ref 14, .ref 15, .int 0, .ref 16, .ref 17, .ref 18]), .inl (0, 12, .inl (fun _ => 0)), .inl (0, 12, .inl (fun _ => 0)), .inl (0, 12, .inl (fun _ => 0)), .inl (0, 202, .inl (fun _ => 0)), .inl (0, 202, .inl (fun _ => 0)), .inl (0, 202, .inl (fun _ => 0)), .inr (6, [.ref 20, .int 0, .int 0, .int 0, .int 0, .int 0]), .inl (0, 120, .inl (fun _ => 0)), .inr (7, [.ref 22, .int 0]), .inl (1, 272, .inl (fun _ => 0))]
set_option maxHeartbeats 4000000 in
set_option maxRecDepth 100000 in
theorem mk_X8_init_0 : Cal 4 mX8_init [.ref 0] wk_1 22 1573 none wk_63 := by
  refine Cal.of (by decide) (g_cats rfl) (Nat.le_of_ble_eq_true rfl) ?_
  refine go_aload_n (q := 1) dX8_init_0 rfl rfl ?_
  refine go_obj (q := 4) dX8_init_1 kw_3 (by decide) (Nat.le_of_ble_eq_true rfl) rfl ?_
  refine go_aload_n (q := 5) dX8_init_4 rfl rfl ?_
  refine go_new (fs := [.int 0, .int 0, .int 0, .int 0, .int 0, .int 0, .int 0]) (ty0 := tyX0) (lw := 1) (k2 := 1) (n2 := 7) (w2 := wk_2) (q := 8) dX8_init_5 kw_4 kw_5 kw_6 (ci := 0) rfl inX0 tyX0_ok (fun j hj => by revert j; decide +kernel) (fun _ => rfl) rfl (by decide) ⟨rfl, rfl⟩ ⟨by decide, by decide⟩ rfl rfl ?_
  refine go_dup (q := 9) dX8_init_8 rfl rfl ?_
  refine go_callI2 (q := 12) (as := []) (rest := [.ref 1, .ref 0]) (k2 := 1) (n2 := 7) dX8_init_9 cX8_9 mk_X0_init_1 rfl rfl rfl (Nat.le_of_ble_eq_true rfl) (by decide) ⟨rfl, rfl⟩ ⟨by decide, by decide⟩ rfl ?_
  refine go_putF (w2 := wk_10) (q := 15) dX8_init_12 rfl fX8_10 rfl (Nat.le_of_ble_eq_true rfl) (fun _ => rfl) (fun _ => rfl) rfl rfl ?_
  refine go_aload_n (q := 16) dX8_init_15 rfl rfl ?_
  refine go_new (fs := [.null, .null, .int 0, .int 0]) (ty0 := tyX3) (lw := 2) (k2 := 2) (n2 := 11) (w2 := wk_11) (q := 19) dX8_init_16 kw_8 kw_9 kw_10 (ci := 3) rfl inX3 tyX3_ok (fun j hj => by revert j; decide +kernel) (fun _ => rfl) rfl (by decide) ⟨rfl, rfl⟩ ⟨by decide, by decide⟩ rfl rfl ?_
  refine go_dup (q := 20) dX8_init_19 rfl rfl ?_
  refine go_aload_n (q := 21) dX8_init_20 rfl rfl ?_
  refine go_get (v := .ref 1) (q := 24) dX8_init_21 fX8_10 rfl rfl rfl ?_
  refine go_callI2 (q := 27) (as := [.ref 1]) (rest := [.ref 2, .ref 0]) (k2 := 3) (n2 := 27) dX8_init_24 cX8_18 mk_X3_init_2 rfl rfl rfl (Nat.le_of_ble_eq_true rfl) (by decide) ⟨rfl, rfl⟩ ⟨by decide, by decide⟩ rfl ?_
  refine go_putF (w2 := wk_15) (q := 30) dX8_init_27 rfl fX8_21 rfl (Nat.le_of_ble_eq_true rfl) (fun _ => rfl) (fun _ => rfl) rfl rfl ?_
  refine go_aload_n (q := 31) dX8_init_30 rfl rfl ?_
  refine go_new (fs := [.null]) (ty0 := tyX5) (lw := 4) (k2 := 4) (n2 := 28) (w2 := wk_16) (q := 34) dX8_init_31 kw_13 kw_14 kw_15 (ci := 5) rfl inX5 tyX5_ok (fun j hj => by revert j; decide +kernel) (fun _ => rfl) rfl (by decide) ⟨rfl, rfl⟩ ⟨by decide, by decide⟩ rfl rfl ?_
  refine go_dup (q := 35) dX8_init_34 rfl rfl ?_
  refine go_aload_n (q := 36) dX8_init_35 rfl rfl ?_
  refine go_get (v := .ref 1) (q := 39) dX8_init_36 fX8_10 rfl rfl rfl ?_
  refine go_callI2 (q := 42) (as := [.ref 1]) (rest := [.ref 4, .ref 0]) (k2 := 4) (n2 := 28) dX8_init_39 cX8_27 mk_X5_init_4 rfl rfl rfl (Nat.le_of_ble_eq_true rfl) (by decide) ⟨rfl, rfl⟩ ⟨by decide, by decide⟩ rfl ?_
  refine go_putF (w2 := wk_18) (q := 45) dX8_init_42 rfl fX8_28 rfl (Nat.le_of_ble_eq_true rfl) (fun _ => rfl) (fun _ => rfl) rfl rfl ?_
  refine go_aload_n (q := 46) dX8_init_45 rfl rfl ?_
  refine go_new (fs := [.null, .null, .null, .null, .null, .null, .int 0, .int 0]) (ty0 := tyX2) (lw := 5) (k2 := 5) (n2 := 36) (w2 := wk_19) (q := 49) dX8_init_46 kw_17 kw_18 kw_19 (ci := 2) rfl inX2 tyX2_ok (fun j hj => by revert j; decide +kernel) (fun _ => rfl) rfl (by decide) ⟨rfl, rfl⟩ ⟨by decide, by decide⟩ rfl rfl ?_
  refine go_dup (q := 50) dX8_init_49 rfl rfl ?_
  refine go_aload_n (q := 51) dX8_init_50 rfl rfl ?_
  refine go_get (v := .ref 1) (q := 54) dX8_init_51 fX8_10 rfl rfl rfl ?_
  refine go_aload_n (q := 55) dX8_init_54 rfl rfl ?_
  refine go_get (v := .ref 2) (q := 58) dX8_init_55 fX8_21 rfl rfl rfl ?_
  refine go_aload_n (q := 59) dX8_init_58 rfl rfl ?_
  refine go_get (v := .ref 4) (q := 62) dX8_init_59 fX8_28 rfl rfl rfl ?_
  refine go_callI2 (q := 65) (as := [.ref 1, .ref 2, .ref 4]) (rest := [.ref 5, .ref 0]) (k2 := 8) (n2 := 246) dX8_init_62 cX8_34 mk_X2_init_5 rfl rfl rfl (Nat.le_of_ble_eq_true rfl) (by decide) ⟨rfl, rfl⟩ ⟨by decide, by decide⟩ rfl ?_
  refine go_putF (w2 := wk_32) (q := 68) dX8_init_65 rfl fX8_37 rfl (Nat.le_of_ble_eq_true rfl) (fun _ => rfl) (fun _ => rfl) rfl rfl ?_
  refine go_aload_n (q := 69) dX8_init_68 rfl rfl ?_
  refine go_new (fs := [.null, .null, .null, .null]) (ty0 := tyX4) (lw := 9) (k2 := 9) (n2 := 250) (w2 := wk_33) (q := 72) dX8_init_69 kw_21 kw_22 kw_23 (ci := 4) rfl inX4 tyX4_ok (fun j hj => by revert j; decide +kernel) (fun _ => rfl) rfl (by decide) ⟨rfl, rfl⟩ ⟨by decide, by decide⟩ rfl rfl ?_
  refine go_dup (q := 73) dX8_init_72 rfl rfl ?_
  refine go_aload_n (q := 74) dX8_init_73 rfl rfl ?_
  refine go_get (v := .ref 1) (q := 77) dX8_init_74 fX8_10 rfl rfl rfl ?_
  refine go_aload_n (q := 78) dX8_init_77 rfl rfl ?_
  refine go_get (v := .ref 2) (q := 81) dX8_init_78 fX8_21 rfl rfl rfl ?_
  refine go_aload_n (q := 82) dX8_init_81 rfl rfl ?_
  refine go_get (v := .ref 5) (q := 85) dX8_init_82 fX8_37 rfl rfl rfl ?_
  refine go_callI2 (q := 88) (as := [.ref 1, .ref 2, .ref 5]) (rest := [.ref 9, .ref 0]) (k2 := 11) (n2 := 524) dX8_init_85 cX8_43 mk_X4_init_9 rfl rfl rfl (Nat.le_of_ble_eq_true rfl) (by decide) ⟨rfl, rfl⟩ ⟨by decide, by decide⟩ rfl ?_
  refine go_putF (w2 := wk_41) (q := 91) dX8_init_88 rfl fX8_46 rfl (Nat.le_of_ble_eq_true rfl) (fun _ => rfl) (fun _ => rfl) rfl rfl ?_
  refine go_aload_n (q := 92) dX8_init_91 rfl rfl ?_
  refine go_new (fs := [.null, .null, .null, .int 0, .null, .null, .null]) (ty0 := tyX1) (lw := 12) (k2 := 12) (n2 := 531) (w2 := wk_42) (q := 95) dX8_init_92 kw_30 kw_31 kw_32 (ci := 1) rfl inX1 tyX1_ok (fun j hj => by revert j; decide +kernel) (fun _ => rfl) rfl (by decide) ⟨rfl, rfl⟩ ⟨by decide, by decide⟩ rfl rfl ?_
  refine go_dup (q := 96) dX8_init_95 rfl rfl ?_
  refine go_callI2 (q := 99) (as := []) (rest := [.ref 12, .ref 0]) (k2 := 18) (n2 := 1173) dX8_init_96 cX8_52 mk_X1_init_12 rfl rfl rfl (Nat.le_of_ble_eq_true rfl) (by decide) ⟨rfl, rfl⟩ ⟨by decide, by decide⟩ rfl ?_
  refine go_putF (w2 := wk_55) (q := 102) dX8_init_99 rfl fX8_53 rfl (Nat.le_of_ble_eq_true rfl) (fun _ => rfl) (fun _ => rfl) rfl rfl ?_
  refine go_aload_n (q := 103) dX8_init_102 rfl rfl ?_
  refine go_new (fs := [.null, .int 0, .int 0, .int 0, .int 0, .int 0]) (ty0 := tyX6) (lw := 19) (k2 := 19) (n2 := 1179) (w2 := wk_56) (q := 106) dX8_init_103 kw_34 kw_35 kw_36 (ci := 6) rfl inX6 tyX6_ok (fun j hj => by revert j; decide +kernel) (fun _ => rfl) rfl (by decide) ⟨rfl, rfl⟩ ⟨by decide, by decide⟩ rfl rfl ?_
  refine go_dup (q := 107) dX8_init_106 rfl rfl ?_
  refine go_callI2 (q := 110) (as := []) (rest := [.ref 19, .ref 0]) (k2 := 20) (n2 := 1299) dX8_init_107 cX8_59 mk_X6_init_19 rfl rfl rfl (Nat.le_of_ble_eq_true rfl) (by decide) ⟨rfl, rfl⟩ ⟨by decide, by decide⟩ rfl ?_
  refine go_putF (w2 := wk_59) (q := 113) dX8_init_110 rfl fX8_60 rfl (Nat.le_of_ble_eq_true rfl) (fun _ => rfl) (fun _ => rfl) rfl rfl ?_
  refine go_aload_n (q := 114) dX8_init_113 rfl rfl ?_
  refine go_new (fs := [.null, .int 0]) (ty0 := tyX7) (lw := 21) (k2 := 21) (n2 := 1301) (w2 := wk_60) (q := 117) dX8_init_114 kw_38 kw_26 kw_27 (ci := 7) rfl inX7 tyX7_ok (fun j hj => by revert j; decide +kernel) (fun _ => rfl) rfl (by decide) ⟨rfl, rfl⟩ ⟨by decide, by decide⟩ rfl rfl ?_
  refine go_dup (q := 118) dX8_init_117 rfl rfl ?_
  refine go_callI2 (q := 121) (as := []) (rest := [.ref 21, .ref 0]) (k2 := 22) (n2 := 1573) dX8_init_118 cX8_66 mk_X7_init_21 rfl rfl rfl (Nat.le_of_ble_eq_true rfl) (by decide) ⟨rfl, rfl⟩ ⟨by decide, by decide⟩ rfl ?_
  refine go_putF (w2 := wk_63) (q := 124) dX8_init_121 rfl fX8_67 rfl (Nat.le_of_ble_eq_true rfl) (fun _ => rfl) (fun _ => rfl) rfl rfl ?_
  exact go_ret dX8_init_124 rfl (Nat.le_refl _) (Nat.le_refl _) ⟨rfl, rfl⟩
theorem kw_39 : Cond.classLink RL 10 RX9 ∈ gT := gT_t (i := 632) (by decide +kernel) rfl
theorem kw_40 : Cond.instantiable RX9 28 ∈ gT := gT_t (i := 633) (by decide +kernel) rfl
theorem kw_41 : Cond.initialized RX9 ∈ gT := gT_t (i := 12) (by decide +kernel) rfl
def wk_64 : List va_E := [.inr (8, [.ref 1, .ref 2, .ref 4, .ref 5, .ref 9, .ref 12, .ref 19, .ref 21]), .inr (0, [.int 3, .int 3, .int 3, .int 0, .int 0, .int 7399, .int 7]), .inr (3, [.ref 1, .ref 3, .int 0, .int 0]), .inl (0, 16, .inl (fun _ => 0)), .inr (5, [.ref 1]), .inr (2, [.ref 1, .ref 2, .ref 4, .ref 6, .ref 7, .ref 8, .int 3, .int 0]), .inl (0, 6, .inl (fiF (fun _ => 0) 1 6)), .inl (0, 102, .inl (fiF (fun _ => 0) 2 102)), .inl (0, 102, .inl (fun _ => 0)), .inr (4, [.ref 1, .ref 2, .ref 5, .ref 10]), .inr (7, [.ref 11, .int 0]), .inl (1, 272, .inl (fun _ => 0)), .inr (1, [.ref 13, .ref 14, .ref 15, .int 0, .ref 16, .ref 17, .ref 18]), .inl (0, 12, .inl (fun _ => 0)), .inl (0, 12, .inl (fun _ => 0)), .inl (0, 12, .inl (fun _ => 0)), .inl (0, 202, .inl (fun _ => 0)), .inl (0, 202, .inl (fun _ => 0)), .inl (0, 202, .inl (fun _ => 0)), .inr (6, [.ref 20, .int 0, .int 0, .int 0, .int 0, .int 0]), .inl (0, 120, .inl (fun _ => 0)), .inr (7, [.ref 22, .int 0]), .inl (1, 272, .inl (fun _ => 0)), .inr (9, [.int 0, .int 0, .int 0, .int 0, .int 0, .int 0, .int 0, .null, .null, .null, .int 0, .int 0, .null, .null, .null, .null, .null, .null, .int 0, .null, .null, .null, .int 0, .null, .int 0, .int 0, .int 0, .int 0])]
theorem kw_42 : Cond.methodLink RX9 1 objectInit ∈ gT := gT_t (i := 637) (by decide +kernel) rfl
def wk_65 : List va_E := [.inr (8, [.ref 1, .ref 2, .ref 4, .ref 5, .ref 9, .ref 12, .ref 19, .ref 21]), .inr (0, [.int 3, .int 3, .int 3, .int 0, .int 0, .int 7399, .int 7]), .inr (3, [.ref 1, .ref 3, .int 0, .int 0]), .inl (0, 16, .inl (fun _ => 0)), .inr (5, [.ref 1]), .inr (2, [.ref 1, .ref 2, .ref 4, .ref 6, .ref 7, .ref 8, .int 3, .int 0]), .inl (0, 6, .inl (fiF (fun _ => 0) 1 6)), .inl (0, 102, .inl (fiF (fun _ => 0) 2 102)), .inl (0, 102, .inl (fun _ => 0)), .inr (4, [.ref 1, .ref 2, .ref 5, .ref 10]), .inr (7, [.ref 11, .int 0]), .inl (1, 272, .inl (fun _ => 0)), .inr (1, [.ref 13, .ref 14, .ref 15, .int 0, .ref 16, .ref 17, .ref 18]), .inl (0, 12, .inl (fun _ => 0)), .inl (0, 12, .inl (fun _ => 0)), .inl (0, 12, .inl (fun _ => 0)), .inl (0, 202, .inl (fun _ => 0)), .inl (0, 202, .inl (fun _ => 0)), .inl (0, 202, .inl (fun _ => 0)), .inr (6, [.ref 20, .int 0, .int 0, .int 0, .int 0, .int 0]), .inl (0, 120, .inl (fun _ => 0)), .inr (7, [.ref 22, .int 0]), .inl (1, 272, .inl (fun _ => 0)), .inr (9, [.int 3, .int 0, .int 0, .int 0, .int 0, .int 0, .int 0, .null, .null, .null, .int 0, .int 0, .null, .null, .null, .null, .null, .null, .int 0, .null, .null, .null, .int 0, .null, .int 0, .int 0, .int 0, .int 0])]
def wk_66 : List va_E := [.inr (8, [.ref 1, .ref 2, .ref 4, .ref 5, .ref 9, .ref 12, .ref 19, .ref 21]), .inr (0, [.int 3, .int 3, .int 3, .int 0, .int 0, .int 7399, .int 7]), .inr (3, [.ref 1, .ref 3, .int 0, .int 0]), .inl (0, 16, .inl (fun _ => 0)), .inr (5, [.ref 1]), .inr (2, [.ref 1, .ref 2, .ref 4, .ref 6, .ref 7, .ref 8, .int 3, .int 0]), .inl (0, 6, .inl (fiF (fun _ => 0) 1 6)), .inl (0, 102, .inl (fiF (fun _ => 0) 2 102)), .inl (0, 102, .inl (fun _ => 0)), .inr (4, [.ref 1, .ref 2, .ref 5, .ref 10]), .inr (7, [.ref 11, .int 0]), .inl (1, 272, .inl (fun _ => 0)), .inr (1, [.ref 13, .ref 14, .ref 15, .int 0, .ref 16, .ref 17, .ref 18]), .inl (0, 12, .inl (fun _ => 0)), .inl (0, 12, .inl (fun _ => 0)), .inl (0, 12, .inl (fun _ => 0)), .inl (0, 202, .inl (fun _ => 0)), .inl (0, 202, .inl (fun _ => 0)), .inl (0, 202, .inl (fun _ => 0)), .inr (6, [.ref 20, .int 0, .int 0, .int 0, .int 0, .int 0]), .inl (0, 120, .inl (fun _ => 0)), .inr (7, [.ref 22, .int 0]), .inl (1, 272, .inl (fun _ => 0)), .inr (9, [.int 3, .int 3, .int 0, .int 0, .int 0, .int 0, .int 0, .null, .null, .null, .int 0, .int 0, .null, .null, .null, .null, .null, .null, .int 0, .null, .null, .null, .int 0, .null, .int 0, .int 0, .int 0, .int 0])]
def wk_67 : List va_E := [.inr (8, [.ref 1, .ref 2, .ref 4, .ref 5, .ref 9, .ref 12, .ref 19, .ref 21]), .inr (0, [.int 3, .int 3, .int 3, .int 0, .int 0, .int 7399, .int 7]), .inr (3, [.ref 1, .ref 3, .int 0, .int 0]), .inl (0, 16, .inl (fun _ => 0)), .inr (5, [.ref 1]), .inr (2, [.ref 1, .ref 2, .ref 4, .ref 6, .ref 7, .ref 8, .int 3, .int 0]), .inl (0, 6, .inl (fiF (fun _ => 0) 1 6)), .inl (0, 102, .inl (fiF (fun _ => 0) 2 102)), .inl (0, 102, .inl (fun _ => 0)), .inr (4, [.ref 1, .ref 2, .ref 5, .ref 10]), .inr (7, [.ref 11, .int 0]), .inl (1, 272, .inl (fun _ => 0)), .inr (1, [.ref 13, .ref 14, .ref 15, .int 0, .ref 16, .ref 17, .ref 18]), .inl (0, 12, .inl (fun _ => 0)), .inl (0, 12, .inl (fun _ => 0)), .inl (0, 12, .inl (fun _ => 0)), .inl (0, 202, .inl (fun _ => 0)), .inl (0, 202, .inl (fun _ => 0)), .inl (0, 202, .inl (fun _ => 0)), .inr (6, [.ref 20, .int 0, .int 0, .int 0, .int 0, .int 0]), .inl (0, 120, .inl (fun _ => 0)), .inr (7, [.ref 22, .int 0]), .inl (1, 272, .inl (fun _ => 0)), .inr (9, [.int 3, .int 3, .int 3, .int 0, .int 0, .int 0, .int 0, .null, .null, .null, .int 0, .int 0, .null, .null, .null, .null, .null, .null, .int 0, .null, .null, .null, .int 0, .null, .int 0, .int 0, .int 0, .int 0])]
def wk_68 : List va_E := [.inr (8, [.ref 1, .ref 2, .ref 4, .ref 5, .ref 9, .ref 12, .ref 19, .ref 21]), .inr (0, [.int 3, .int 3, .int 3, .int 0, .int 0, .int 7399, .int 7]), .inr (3, [.ref 1, .ref 3, .int 0, .int 0]), .inl (0, 16, .inl (fun _ => 0)), .inr (5, [.ref 1]), .inr (2, [.ref 1, .ref 2, .ref 4, .ref 6, .ref 7, .ref 8, .int 3, .int 0]), .inl (0, 6, .inl (fiF (fun _ => 0) 1 6)), .inl (0, 102, .inl (fiF (fun _ => 0) 2 102)), .inl (0, 102, .inl (fun _ => 0)), .inr (4, [.ref 1, .ref 2, .ref 5, .ref 10]), .inr (7, [.ref 11, .int 0]), .inl (1, 272, .inl (fun _ => 0)), .inr (1, [.ref 13, .ref 14, .ref 15, .int 0, .ref 16, .ref 17, .ref 18]), .inl (0, 12, .inl (fun _ => 0)), .inl (0, 12, .inl (fun _ => 0)), .inl (0, 12, .inl (fun _ => 0)), .inl (0, 202, .inl (fun _ => 0)), .inl (0, 202, .inl (fun _ => 0)), .inl (0, 202, .inl (fun _ => 0)), .inr (6, [.ref 20, .int 0, .int 0, .int 0, .int 0, .int 0]), .inl (0, 120, .inl (fun _ => 0)), .inr (7, [.ref 22, .int 0]), .inl (1, 272, .inl (fun _ => 0)), .inr (9, [.int 3, .int 3, .int 3, .int 0, .int 3, .int 0, .int 0, .null, .null, .null, .int 0, .int 0, .null, .null, .null, .null, .null, .null, .int 0, .null, .null, .null, .int 0, .null, .int 0, .int 0, .int 0, .int 0])]
def wk_69 : List va_E := [.inr (8, [.ref 1, .ref 2, .ref 4, .ref 5, .ref 9, .ref 12, .ref 19, .ref 21]), .inr (0, [.int 3, .int 3, .int 3, .int 0, .int 0, .int 7399, .int 7]), .inr (3, [.ref 1, .ref 3, .int 0, .int 0]), .inl (0, 16, .inl (fun _ => 0)), .inr (5, [.ref 1]), .inr (2, [.ref 1, .ref 2, .ref 4, .ref 6, .ref 7, .ref 8, .int 3, .int 0]), .inl (0, 6, .inl (fiF (fun _ => 0) 1 6)), .inl (0, 102, .inl (fiF (fun _ => 0) 2 102)), .inl (0, 102, .inl (fun _ => 0)), .inr (4, [.ref 1, .ref 2, .ref 5, .ref 10]), .inr (7, [.ref 11, .int 0]), .inl (1, 272, .inl (fun _ => 0)), .inr (1, [.ref 13, .ref 14, .ref 15, .int 0, .ref 16, .ref 17, .ref 18]), .inl (0, 12, .inl (fun _ => 0)), .inl (0, 12, .inl (fun _ => 0)), .inl (0, 12, .inl (fun _ => 0)), .inl (0, 202, .inl (fun _ => 0)), .inl (0, 202, .inl (fun _ => 0)), .inl (0, 202, .inl (fun _ => 0)), .inr (6, [.ref 20, .int 0, .int 0, .int 0, .int 0, .int 0]), .inl (0, 120, .inl (fun _ => 0)), .inr (7, [.ref 22, .int 0]), .inl (1, 272, .inl (fun _ => 0)), .inr (9, [.int 3, .int 3, .int 3, .int 0, .int 3, .int 0, .int 0, .null, .null, .null, .int 0, .int 0, .null, .null, .null, .null, .null, .null, .int 0, .null, .null, .null, .int 0, .null, .int 0, .int 0, .int 0, .int 0]), .inl (0, 16, .inl (fun _ => 0))]
def wk_70 : List va_E := [.inr (8, [.ref 1, .ref 2, .ref 4, .ref 5, .ref 9, .ref 12, .ref 19, .ref 21]), .inr (0, [.int 3, .int 3, .int 3, .int 0, .int 0, .int 7399, .int 7]), .inr (3, [.ref 1, .ref 3, .int 0, .int 0]), .inl (0, 16, .inl (fun _ => 0)), .inr (5, [.ref 1]), .inr (2, [.ref 1, .ref 2, .ref 4, .ref 6, .ref 7, .ref 8, .int 3, .int 0]), .inl (0, 6, .inl (fiF (fun _ => 0) 1 6)), .inl (0, 102, .inl (fiF (fun _ => 0) 2 102)), .inl (0, 102, .inl (fun _ => 0)), .inr (4, [.ref 1, .ref 2, .ref 5, .ref 10]), .inr (7, [.ref 11, .int 0]), .inl (1, 272, .inl (fun _ => 0)), .inr (1, [.ref 13, .ref 14, .ref 15, .int 0, .ref 16, .ref 17, .ref 18]), .inl (0, 12, .inl (fun _ => 0)), .inl (0, 12, .inl (fun _ => 0)), .inl (0, 12, .inl (fun _ => 0)), .inl (0, 202, .inl (fun _ => 0)), .inl (0, 202, .inl (fun _ => 0)), .inl (0, 202, .inl (fun _ => 0)), .inr (6, [.ref 20, .int 0, .int 0, .int 0, .int 0, .int 0]), .inl (0, 120, .inl (fun _ => 0)), .inr (7, [.ref 22, .int 0]), .inl (1, 272, .inl (fun _ => 0)), .inr (9, [.int 3, .int 3, .int 3, .int 0, .int 3, .int 0, .int 0, .ref 24, .null, .null, .int 0, .int 0, .null, .null, .null, .null, .null, .null, .int 0, .null, .null, .null, .int 0, .null, .int 0, .int 0, .int 0, .int 0]), .inl (0, 16, .inl (fun _ => 0))]
def wk_71 : List va_E := [.inr (8, [.ref 1, .ref 2, .ref 4, .ref 5, .ref 9, .ref 12, .ref 19, .ref 21]), .inr (0, [.int 3, .int 3, .int 3, .int 0, .int 0, .int 7399, .int 7]), .inr (3, [.ref 1, .ref 3, .int 0, .int 0]), .inl (0, 16, .inl (fun _ => 0)), .inr (5, [.ref 1]), .inr (2, [.ref 1, .ref 2, .ref 4, .ref 6, .ref 7, .ref 8, .int 3, .int 0]), .inl (0, 6, .inl (fiF (fun _ => 0) 1 6)), .inl (0, 102, .inl (fiF (fun _ => 0) 2 102)), .inl (0, 102, .inl (fun _ => 0)), .inr (4, [.ref 1, .ref 2, .ref 5, .ref 10]), .inr (7, [.ref 11, .int 0]), .inl (1, 272, .inl (fun _ => 0)), .inr (1, [.ref 13, .ref 14, .ref 15, .int 0, .ref 16, .ref 17, .ref 18]), .inl (0, 12, .inl (fun _ => 0)), .inl (0, 12, .inl (fun _ => 0)), .inl (0, 12, .inl (fun _ => 0)), .inl (0, 202, .inl (fun _ => 0)), .inl (0, 202, .inl (fun _ => 0)), .inl (0, 202, .inl (fun _ => 0)), .inr (6, [.ref 20, .int 0, .int 0, .int 0, .int 0, .int 0]), .inl (0, 120, .inl (fun _ => 0)), .inr (7, [.ref 22, .int 0]), .inl (1, 272, .inl (fun _ => 0)), .inr (9, [.int 3, .int 3, .int 3, .int 0, .int 3, .int 0, .int 0, .ref 24, .null, .null, .int 0, .int 0, .null, .null, .null, .null, .null, .null, .int 0, .null, .null, .null, .int 0, .null, .int 0, .int 0, .int 0, .int 0]), .inl (0, 16, .inl (fun _ => 0)), .inl (0, 6, .inl (fun _ => 0))]
def wk_72 : List va_E := [.inr (8, [.ref 1, .ref 2, .ref 4, .ref 5, .ref 9, .ref 12, .ref 19, .ref 21]), .inr (0, [.int 3, .int 3, .int 3, .int 0, .int 0, .int 7399, .int 7]), .inr (3, [.ref 1, .ref 3, .int 0, .int 0]), .inl (0, 16, .inl (fun _ => 0)), .inr (5, [.ref 1]), .inr (2, [.ref 1, .ref 2, .ref 4, .ref 6, .ref 7, .ref 8, .int 3, .int 0]), .inl (0, 6, .inl (fiF (fun _ => 0) 1 6)), .inl (0, 102, .inl (fiF (fun _ => 0) 2 102)), .inl (0, 102, .inl (fun _ => 0)), .inr (4, [.ref 1, .ref 2, .ref 5, .ref 10]), .inr (7, [.ref 11, .int 0]), .inl (1, 272, .inl (fun _ => 0)), .inr (1, [.ref 13, .ref 14, .ref 15, .int 0, .ref 16, .ref 17, .ref 18]), .inl (0, 12, .inl (fun _ => 0)), .inl (0, 12, .inl (fun _ => 0)), .inl (0, 12, .inl (fun _ => 0)), .inl (0, 202, .inl (fun _ => 0)), .inl (0, 202, .inl (fun _ => 0)), .inl (0, 202, .inl (fun _ => 0)), .inr (6, [.ref 20, .int 0, .int 0, .int 0, .int 0, .int 0]), .inl (0, 120, .inl (fun _ => 0)), .inr (7, [.ref 22, .int 0]), .inl (1, 272, .inl (fun _ => 0)), .inr (9, [.int 3, .int 3, .int 3, .int 0, .int 3, .int 0, .int 0, .ref 24, .ref 25, .null, .int 0, .int 0, .null, .null, .null, .null, .null, .null, .int 0, .null, .null, .null, .int 0, .null, .int 0, .int 0, .int 0, .int 0]), .inl (0, 16, .inl (fun _ => 0)), .inl (0, 6, .inl (fun _ => 0))]
def wk_73 : List va_E := [.inr (8, [.ref 1, .ref 2, .ref 4, .ref 5, .ref 9, .ref 12, .ref 19, .ref 21]), .inr (0, [.int 3, .int 3, .int 3, .int 0, .int 0, .int 7399, .int 7]), .inr (3, [.ref 1, .ref 3, .int 0, .int 0]), .inl (0, 16, .inl (fun _ => 0)), .inr (5, [.ref 1]), .inr (2, [.ref 1, .ref 2, .ref 4, .ref 6, .ref 7, .ref 8, .int 3, .int 0]), .inl (0, 6, .inl (fiF (fun _ => 0) 1 6)), .inl (0, 102, .inl (fiF (fun _ => 0) 2 102)), .inl (0, 102, .inl (fun _ => 0)), .inr (4, [.ref 1, .ref 2, .ref 5, .ref 10]), .inr (7, [.ref 11, .int 0]), .inl (1, 272, .inl (fun _ => 0)), .inr (1, [.ref 13, .ref 14, .ref 15, .int 0, .ref 16, .ref 17, .ref 18]), .inl (0, 12, .inl (fun _ => 0)), .inl (0, 12, .inl (fun _ => 0)), .inl (0, 12, .inl (fun _ => 0)), .inl (0, 202, .inl (fun _ => 0)), .inl (0, 202, .inl (fun _ => 0)), .inl (0, 202, .inl (fun _ => 0)), .inr (6, [.ref 20, .int 0, .int 0, .int 0, .int 0, .int 0]), .inl (0, 120, .inl (fun _ => 0)), .inr (7, [.ref 22, .int 0]), .inl (1, 272, .inl (fun _ => 0)), .inr (9, [.int 3, .int 3, .int 3, .int 0, .int 3, .int 0, .int 0, .ref 24, .ref 25, .null, .int 0, .int 0, .null, .null, .null, .null, .null, .null, .int 0, .null, .null, .null, .int 0, .null, .int 0, .int 0, .int 0, .int 0]), .inl (0, 16, .inl (fun _ => 0)), .inl (0, 6, .inl (fun _ => 0)), .inl (0, 16, .inl (fun _ => 0))]
def wk_74 : List va_E := [.inr (8, [.ref 1, .ref 2, .ref 4, .ref 5, .ref 9, .ref 12, .ref 19, .ref 21]), .inr (0, [.int 3, .int 3, .int 3, .int 0, .int 0, .int 7399, .int 7]), .inr (3, [.ref 1, .ref 3, .int 0, .int 0]), .inl (0, 16, .inl (fun _ => 0)), .inr (5, [.ref 1]), .inr (2, [.ref 1, .ref 2, .ref 4, .ref 6, .ref 7, .ref 8, .int 3, .int 0]), .inl (0, 6, .inl (fiF (fun _ => 0) 1 6)), .inl (0, 102, .inl (fiF (fun _ => 0) 2 102)), .inl (0, 102, .inl (fun _ => 0)), .inr (4, [.ref 1, .ref 2, .ref 5, .ref 10]), .inr (7, [.ref 11, .int 0]), .inl (1, 272, .inl (fun _ => 0)), .inr (1, [.ref 13, .ref 14, .ref 15, .int 0, .ref 16, .ref 17, .ref 18]), .inl (0, 12, .inl (fun _ => 0)), .inl (0, 12, .inl (fun _ => 0)), .inl (0, 12, .inl (fun _ => 0)), .inl (0, 202, .inl (fun _ => 0)), .inl (0, 202, .inl (fun _ => 0)), .inl (0, 202, .inl (fun _ => 0)), .inr (6, [.ref 20, .int 0, .int 0, .int 0, .int 0, .int 0]), .inl (0, 120, .inl (fun _ => 0)), .inr (7, [.ref 22, .int 0]), .inl (1, 272, .inl (fun _ => 0)), .inr (9, [.int 3, .int 3, .int 3, .int 0, .int 3, .int 0, .int 0, .ref 24, .ref 25, .ref 26, .int 0, .int 0, .null, .null, .null, .null, .null, .null, .int 0, .null, .null, .null, .int 0, .null, .int 0, .int 0, .int 0, .int 0]), .inl (0, 16, .inl (fun _ => 0)), .inl (0, 6, .inl (fun _ => 0)), .inl (0, 16, .inl (fun _ => 0))]
def wk_75 : List va_E := [.inr (8, [.ref 1, .ref 2, .ref 4, .ref 5, .ref 9, .ref 12, .ref 19, .ref 21]), .inr (0, [.int 3, .int 3, .int 3, .int 0, .int 0, .int 7399, .int 7]), .inr (3, [.ref 1, .ref 3, .int 0, .int 0]), .inl (0, 16, .inl (fun _ => 0)), .inr (5, [.ref 1]), .inr (2, [.ref 1, .ref 2, .ref 4, .ref 6, .ref 7, .ref 8, .int 3, .int 0]), .inl (0, 6, .inl (fiF (fun _ => 0) 1 6)), .inl (0, 102, .inl (fiF (fun _ => 0) 2 102)), .inl (0, 102, .inl (fun _ => 0)), .inr (4, [.ref 1, .ref 2, .ref 5, .ref 10]), .inr (7, [.ref 11, .int 0]), .inl (1, 272, .inl (fun _ => 0)), .inr (1, [.ref 13, .ref 14, .ref 15, .int 0, .ref 16, .ref 17, .ref 18]), .inl (0, 12, .inl (fun _ => 0)), .inl (0, 12, .inl (fun _ => 0)), .inl (0, 12, .inl (fun _ => 0)), .inl (0, 202, .inl (fun _ => 0)), .inl (0, 202, .inl (fun _ => 0)), .inl (0, 202, .inl (fun _ => 0)), .inr (6, [.ref 20, .int 0, .int 0, .int 0, .int 0, .int 0]), .inl (0, 120, .inl (fun _ => 0)), .inr (7, [.ref 22, .int 0]), .inl (1, 272, .inl (fun _ => 0)), .inr (9, [.int 3, .int 3, .int 3, .int 0, .int 3, .int 0, .int 0, .ref 24, .ref 25, .ref 26, .int 0, .int 0, .null, .null, .null, .null, .null, .null, .int 0, .null, .null, .null, .int 0, .null, .int 0, .int 0, .int 0, .int 0]), .inl (0, 16, .inl (fun _ => 0)), .inl (0, 6, .inl (fun _ => 0)), .inl (0, 16, .inl (fun _ => 0)), .inl (0, 6, .inl (fun _ => 0))]
def wk_76 : List va_E := [.inr (8, [.ref 1, .ref 2, .ref 4, .ref 5, .ref 9, .ref 12, .ref 19, .ref 21]), .inr (0, [.int 3, .int 3, .int 3, .int 0, .int 0, .int 7399, .int 7]), .inr (3, [.ref 1, .ref 3, .int 0, .int 0]), .inl (0, 16, .inl (fun _ => 0)), .inr (5, [.ref 1]), .inr (2, [.ref 1, .ref 2, .ref 4, .ref 6, .ref 7, .ref 8, .int 3, .int 0]), .inl (0, 6, .inl (fiF (fun _ => 0) 1 6)), .inl (0, 102, .inl (fiF (fun _ => 0) 2 102)), .inl (0, 102, .inl (fun _ => 0)), .inr (4, [.ref 1, .ref 2, .ref 5, .ref 10]), .inr (7, [.ref 11, .int 0]), .inl (1, 272, .inl (fun _ => 0)), .inr (1, [.ref 13, .ref 14, .ref 15, .int 0, .ref 16, .ref 17, .ref 18]), .inl (0, 12, .inl (fun _ => 0)), .inl (0, 12, .inl (fun _ => 0)), .inl (0, 12, .inl (fun _ => 0)), .inl (0, 202, .inl (fun _ => 0)), .inl (0, 202, .inl (fun _ => 0)), .inl (0, 202, .inl (fun _ => 0)), .inr (6, [.ref 20, .int 0, .int 0, .int 0, .int 0, .int 0]), .inl (0, 120, .inl (fun _ => 0)), .inr (7, [.ref 22, .int 0]), .inl (1, 272, .inl (fun _ => 0)), .inr (9, [.int 3, .int 3, .int 3, .int 0, .int 3, .int 0, .int 0, .ref 24, .ref 25, .ref 26, .int 0, .int 0, .ref 27, .null, .null, .null, .null, .null, .int 0, .null, .null, .null, .int 0, .null, .int 0, .int 0, .int 0, .int 0]), .inl (0, 16, .inl (fun _ => 0)), .inl (0, 6, .inl (fun _ => 0)), .inl (0, 16, .inl (fun _ => 0)), .inl (0, 6, .inl (fun _ => 0))]
def wk_77 : List va_E := [.inr (8, [.ref 1, .ref 2, .ref 4, .ref 5, .ref 9, .ref 12, .ref 19, .ref 21]), .inr (0, [.int 3, .int 3, .int 3, .int 0, .int 0, .int 7399, .int 7]), .inr (3, [.ref 1, .ref 3, .int 0, .int 0]), .inl (0, 16, .inl (fun _ => 0)), .inr (5, [.ref 1]), .inr (2, [.ref 1, .ref 2, .ref 4, .ref 6, .ref 7, .ref 8, .int 3, .int 0]), .inl (0, 6, .inl (fiF (fun _ => 0) 1 6)), .inl (0, 102, .inl (fiF (fun _ => 0) 2 102)), .inl (0, 102, .inl (fun _ => 0)), .inr (4, [.ref 1, .ref 2, .ref 5, .ref 10]), .inr (7, [.ref 11, .int 0]), .inl (1, 272, .inl (fun _ => 0)), .inr (1, [.ref 13, .ref 14, .ref 15, .int 0, .ref 16, .ref 17, .ref 18]), .inl (0, 12, .inl (fun _ => 0)), .inl (0, 12, .inl (fun _ => 0)), .inl (0, 12, .inl (fun _ => 0)), .inl (0, 202, .inl (fun _ => 0)), .inl (0, 202, .inl (fun _ => 0)), .inl (0, 202, .inl (fun _ => 0)), .inr (6, [.ref 20, .int 0, .int 0, .int 0, .int 0, .int 0]), .inl (0, 120, .inl (fun _ => 0)), .inr (7, [.ref 22, .int 0]), .inl (1, 272, .inl (fun _ => 0)), .inr (9, [.int 3, .int 3, .int 3, .int 0, .int 3, .int 0, .int 0, .ref 24, .ref 25, .ref 26, .int 0, .int 0, .ref 27, .null, .null, .null, .null, .null, .int 0, .null, .null, .null, .int 0, .null, .int 0, .int 0, .int 0, .int 0]), .inl (0, 16, .inl (fun _ => 0)), .inl (0, 6, .inl (fun _ => 0)), .inl (0, 16, .inl (fun _ => 0)), .inl (0, 6, .inl (fun _ => 0)), .inl (0, 6, .inl (fun _ => 0))]
def wk_78 : List va_E := [.inr (8, [.ref 1, .ref 2, .ref 4, .ref 5, .ref 9, .ref 12, .ref 19, .ref 21]), .inr (0, [.int 3, .int 3, .int 3, .int 0, .int 0, .int 7399, .int 7]), .inr (3, [.ref 1, .ref 3, .int 0, .int 0]), .inl (0, 16, .inl (fun _ => 0)), .inr (5, [.ref 1]), .inr (2, [.ref 1, .ref 2, .ref 4, .ref 6, .ref 7, .ref 8, .int 3, .int 0]), .inl (0, 6, .inl (fiF (fun _ => 0) 1 6)), .inl (0, 102, .inl (fiF (fun _ => 0) 2 102)), .inl (0, 102, .inl (fun _ => 0)), .inr (4, [.ref 1, .ref 2, .ref 5, .ref 10]), .inr (7, [.ref 11, .int 0]), .inl (1, 272, .inl (fun _ => 0)), .inr (1, [.ref 13, .ref 14, .ref 15, .int 0, .ref 16, .ref 17, .ref 18]), .inl (0, 12, .inl (fun _ => 0)), .inl (0, 12, .inl (fun _ => 0)), .inl (0, 12, .inl (fun _ => 0)), .inl (0, 202, .inl (fun _ => 0)), .inl (0, 202, .inl (fun _ => 0)), .inl (0, 202, .inl (fun _ => 0)), .inr (6, [.ref 20, .int 0, .int 0, .int 0, .int 0, .int 0]), .inl (0, 120, .inl (fun _ => 0)), .inr (7, [.ref 22, .int 0]), .inl (1, 272, .inl (fun _ => 0)), .inr (9, [.int 3, .int 3, .int 3, .int 0, .int 3, .int 0, .int 0, .ref 24, .ref 25, .ref 26, .int 0, .int 0, .ref 27, .ref 28, .null, .null, .null, .null, .int 0, .null, .null, .null, .int 0, .null, .int 0, .int 0, .int 0, .int 0]), .inl (0, 16, .inl (fun _ => 0)), .inl (0, 6, .inl (fun _ => 0)), .inl (0, 16, .inl (fun _ => 0)), .inl (0, 6, .inl (fun _ => 0)), .inl (0, 6, .inl (fun _ => 0))]
def wk_79 : List va_E := [.inr (8, [.ref 1, .ref 2, .ref 4, .ref 5, .ref 9, .ref 12, .ref 19, .ref 21]), .inr (0, [.int 3, .int 3, .int 3, .int 0, .int 0, .int 7399, .int 7]), .inr (3, [.ref 1, .ref 3, .int 0, .int 0]), .inl (0, 16, .inl (fun _ => 0)), .inr (5, [.ref 1]), .inr (2, [.ref 1, .ref 2, .ref 4, .ref 6, .ref 7, .ref 8, .int 3, .int 0]), .inl (0, 6, .inl (fiF (fun _ => 0) 1 6)), .inl (0, 102, .inl (fiF (fun _ => 0) 2 102)), .inl (0, 102, .inl (fun _ => 0)), .inr (4, [.ref 1, .ref 2, .ref 5, .ref 10]), .inr (7, [.ref 11, .int 0]), .inl (1, 272, .inl (fun _ => 0)), .inr (1, [.ref 13, .ref 14, .ref 15, .int 0, .ref 16, .ref 17, .ref 18]), .inl (0, 12, .inl (fun _ => 0)), .inl (0, 12, .inl (fun _ => 0)), .inl (0, 12, .inl (fun _ => 0)), .inl (0, 202, .inl (fun _ => 0)), .inl (0, 202, .inl (fun _ => 0)), .inl (0, 202, .inl (fun _ => 0)), .inr (6, [.ref 20, .int 0, .int 0, .int 0, .int 0, .int 0]), .inl (0, 120, .inl (fun _ => 0)), .inr (7, [.ref 22, .int 0]), .inl (1, 272, .inl (fun _ => 0)), .inr (9, [.int 3, .int 3, .int 3, .int 0, .int 3, .int 0, .int 0, .ref 24, .ref 25, .ref 26, .int 0, .int 0, .ref 27, .ref 28, .null, .null, .null, .null, .int 0, .null, .null, .null, .int 0, .null, .int 0, .int 0, .int 0, .int 0]), .inl (0, 16, .inl (fun _ => 0)), .inl (0, 6, .inl (fun _ => 0)), .inl (0, 16, .inl (fun _ => 0)), .inl (0, 6, .inl (fun _ => 0)), .inl (0, 6, .inl (fun _ => 0)), .inl (0, 6, .inl (fun _ => 0))]
def wk_80 : List va_E := [.inr (8, [.ref 1, .ref 2, .ref 4, .ref 5, .ref 9, .ref 12, .ref 19, .ref 21]), .inr (0, [.int 3, .int 3, .int 3, .int 0, .int 0, .int 7399, .int 7]), .inr (3, [.ref 1, .ref 3, .int 0, .int 0]), .inl (0, 16, .inl (fun _ => 0)), .inr (5, [.ref 1]), .inr (2, [.ref 1, .ref 2, .ref 4, .ref 6, .ref 7, .ref 8, .int 3, .int 0]), .inl (0, 6, .inl (fiF (fun _ => 0) 1 6)), .inl (0, 102, .inl (fiF (fun _ => 0) 2 102)), .inl (0, 102, .inl (fun _ => 0)), .inr (4, [.ref 1, .ref 2, .ref 5, .ref 10]), .inr (7, [.ref 11, .int 0]), .inl (1, 272, .inl (fun _ => 0)), .inr (1, [.ref 13, .ref 14, .ref 15, .int 0, .ref 16, .ref 17, .ref 18]), .inl (0, 12, .inl (fun _ => 0)), .inl (0, 12, .inl (fun _ => 0)), .inl (0, 12, .inl (fun _ => 0)), .inl (0, 202, .inl (fun _ => 0)), .inl (0, 202, .inl (fun _ => 0)), .inl (0, 202, .inl (fun _ => 0)), .inr (6, [.ref 20, .int 0, .int 0, .int 0, .int 0, .int 0]), .inl (0, 120, .inl (fun _ => 0)), .inr (7, [.ref 22, .int 0]), .inl (1, 272, .inl (fun _ => 0)), .inr (9, [.int 3, .int 3, .int 3, .int 0, .int 3, .int 0, .int 0, .ref 24, .ref 25, .ref 26, .int 0, .int 0, .ref 27, .ref 28, .ref 29, .null, .null, .null, .int 0, .null, .null, .null, .int 0, .null, .int 0, .int 0, .int 0, .int 0]), .inl (0, 16, .inl (fun _ => 0)), .inl (0, 6, .inl (fun _ => 0)), .inl (0, 16, .inl (fun _ => 0)), .inl (0, 6, .inl (fun _ => 0)), .inl (0, 6, .inl (fun _ => 0)), .inl (0, 6, .inl (fun _ => 0))]
def wk_81 : List va_E := [.inr (8, [.ref 1, .ref 2, .ref 4, .ref 5, .ref 9, .ref 12, .ref 19, .ref 21]), .inr (0, [.int 3, .int 3, .int 3, .int 0, .int 0, .int 7399, .int 7]), .inr (3, [.ref 1, .ref 3, .int 0, .int 0]), .inl (0, 16, .inl (fun _ => 0)), .inr (5, [.ref 1]), .inr (2, [.ref 1, .ref 2, .ref 4, .ref 6, .ref 7, .ref 8, .int 3, .int 0]), .inl (0, 6, .inl (fiF (fun _ => 0) 1 6)), .inl (0, 102, .inl (fiF (fun _ => 0) 2 102)), .inl (0, 102, .inl (fun _ => 0)), .inr (4, [.ref 1, .ref 2, .ref 5, .ref 10]), .inr (7, [.ref 11, .int 0]), .inl (1, 272, .inl (fun _ => 0)), .inr (1, [.ref 13, .ref 14, .ref 15, .int 0, .ref 16, .ref 17, .ref 18]), .inl (0, 12, .inl (fun _ => 0)), .inl (0, 12, .inl (fun _ => 0)), .inl (0, 12, .inl (fun _ => 0)), .inl (0, 202, .inl (fun _ => 0)), .inl (0, 202, .inl (fun _ => 0)), .inl (0, 202, .inl (fun _ => 0)), .inr (6, [.ref 20, .int 0, .int 0, .int 0, .int 0, .int 0]), .inl (0, 120, .inl (fun _ => 0)), .inr (7, [.ref 22, .int 0]), .inl (1, 272, .inl (fun _ => 0)), .inr (9, [.int 3, .int 3, .int 3, .int 0, .int 3, .int 0, .int 0, .ref 24, .ref 25, .ref 26, .int 0, .int 0, .ref 27, .ref 28, .ref 29, .null, .null, .null, .int 0, .null, .null, .null, .int 0, .null, .int 0, .int 0, .int 0, .int 0]), .inl (0, 16, .inl (fun _ => 0)), .inl (0, 6, .inl (fun _ => 0)), .inl (0, 16, .inl (fun _ => 0)), .inl (0, 6, .inl (fun _ => 0)), .inl (0, 6, .inl (fun _ => 0)), .inl (0, 6, .inl (fun _ => 0)), .inl (0, 17, .inl (fun _ => 0))]
def wk_82 : List va_E := [.inr (8, [.ref 1, .ref 2, .ref 4, .ref 5, .ref 9, .ref 12, .ref 19, .ref 21]), .inr (0, [.int 3, .int 3, .int 3, .int 0, .int 0, .int 7399, .int 7]), .inr (3, [.ref 1, .ref 3, .int 0, .int 0]), .inl (0, 16, .inl (fun _ => 0)), .inr (5, [.ref 1]), .inr (2, [.ref 1, .ref 2, .ref 4, .ref 6, .ref 7, .ref 8, .int 3, .int 0]), .inl (0, 6, .inl (fiF (fun _ => 0) 1 6)), .inl (0, 102, .inl (fiF (fun _ => 0) 2 102)), .inl (0, 102, .inl (fun _ => 0)), .inr (4, [.ref 1, .ref 2, .ref 5, .ref 10]), .inr (7, [.ref 11, .int 0]), .inl (1, 272, .inl (fun _ => 0)), .inr (1, [.ref 13, .ref 14, .ref 15, .int 0, .ref 16, .ref 17, .ref 18]), .inl (0, 12, .inl (fun _ => 0)), .inl (0, 12, .inl (fun _ => 0)), .inl (0, 12, .inl (fun _ => 0)), .inl (0, 202, .inl (fun _ => 0)), .inl (0, 202, .inl (fun _ => 0)), .inl (0, 202, .inl (fun _ => 0)), .inr (6, [.ref 20, .int 0, .int 0, .int 0, .int 0, .int 0]), .inl (0, 120, .inl (fun _ => 0)), .inr (7, [.ref 22, .int 0]), .inl (1, 272, .inl (fun _ => 0)), .inr (9, [.int 3, .int 3, .int 3, .int 0, .int 3, .int 0, .int 0, .ref 24, .ref 25, .ref 26, .int 0, .int 0, .ref 27, .ref 28, .ref 29, .ref 30, .null, .null, .int 0, .null, .null, .null, .int 0, .null, .int 0, .int 0, .int 0, .int 0]), .inl (0, 16, .inl (fun _ => 0)), .inl (0, 6, .inl (fun _ => 0)), .inl (0, 16, .inl (fun _ => 0)), .inl (0, 6, .inl (fun _ => 0)), .inl (0, 6, .inl (fun _ => 0)), .inl (0, 6, .inl (fun _ => 0)), .inl (0, 17, .inl (fun _ => 0))]
theorem kw_43 : Cond.arrayClass (newarray.typeOf .boolean) ∈ gT := gT_t (i := 727) (by decide +kernel) rfl
def wk_83 : List va_E := [.inr (8, [.ref 1, .ref 2, .ref 4, .ref 5, .ref 9, .ref 12, .ref 19, .ref 21]), .inr (0, [.int 3, .int 3, .int 3, .int 0, .int 0, .int 7399, .int 7]), .inr (3, [.ref 1, .ref 3, .int 0, .int 0]), .inl (0, 16, .inl (fun _ => 0)), .inr (5, [.ref 1]), .inr (2, [.ref 1, .ref 2, .ref 4, .ref 6, .ref 7, .ref 8, .int 3, .int 0]), .inl (0, 6, .inl (fiF (fun _ => 0) 1 6)), .inl (0, 102, .inl (fiF (fun _ => 0) 2 102)), .inl (0, 102, .inl (fun _ => 0)), .inr (4, [.ref 1, .ref 2, .ref 5, .ref 10]), .inr (7, [.ref 11, .int 0]), .inl (1, 272, .inl (fun _ => 0)), .inr (1, [.ref 13, .ref 14, .ref 15, .int 0, .ref 16, .ref 17, .ref 18]), .inl (0, 12, .inl (fun _ => 0)), .inl (0, 12, .inl (fun _ => 0)), .inl (0, 12, .inl (fun _ => 0)), .inl (0, 202, .inl (fun _ => 0)), .inl (0, 202, .inl (fun _ => 0)), .inl (0, 202, .inl (fun _ => 0)), .inr (6, [.ref 20, .int 0, .int 0, .int 0, .int 0, .int 0]), .inl (0, 120, .inl (fun _ => 0)), .inr (7, [.ref 22, .int 0]), .inl (1, 272, .inl (fun _ => 0)), .inr (9, [.int 3, .int 3, .int 3, .int 0, .int 3, .int 0, .int 0, .ref 24, .ref 25, .ref 26, .int 0, .int 0, .ref 27, .ref 28, .ref 29, .ref 30, .null, .null, .int 0, .null, .null, .null, .int 0, .null, .int 0, .int 0, .int 0, .int 0]), .inl (0, 16, .inl (fun _ => 0)), .inl (0, 6, .inl (fun _ => 0)), .inl (0, 16, .inl (fun _ => 0)), .inl (0, 6, .inl (fun _ => 0)), .inl (0, 6, .inl (fun _ => 0)), .inl (0, 6, .inl (fun _ => 0)), .inl (0, 17, .inl (fun _ => 0)), .inl (2, 17, .inl (fun _ => 0))]
def wk_84 : List va_E := [.inr (8, [.ref 1, .ref 2, .ref 4, .ref 5, .ref 9, .ref 12, .ref 19, .ref 21]), .inr (0, [.int 3, .int 3, .int 3, .int 0, .int 0, .int 7399, .int 7]), .inr (3, [.ref 1, .ref 3, .int 0, .int 0]), .inl (0, 16, .inl (fun _ => 0)), .inr (5, [.ref 1]), .inr (2, [.ref 1, .ref 2, .ref 4, .ref 6, .ref 7, .ref 8, .int 3, .int 0]), .inl (0, 6, .inl (fiF (fun _ => 0) 1 6)), .inl (0, 102, .inl (fiF (fun _ => 0) 2 102)), .inl (0, 102, .inl (fun _ => 0)), .inr (4, [.ref 1, .ref 2, .ref 5, .ref 10]), .inr (7, [.ref 11, .int 0]), .inl (1, 272, .inl (fun _ => 0)), .inr (1, [.ref 13, .ref 14, .ref 15, .int 0, .ref 16, .ref 17, .ref 18]), .inl (0, 12, .inl (fun _ => 0)), .inl (0, 12, .inl (fun _ => 0)), .inl (0, 12, .inl (fun _ => 0)), .inl (0, 202, .inl (fun _ => 0)), .inl (0, 202, .inl (fun _ => 0)), .inl (0, 202, .inl (fun _ => 0)), .inr (6, [.ref 20, .int 0, .int 0, .int 0, .int 0, .int 0]), .inl (0, 120, .inl (fun _ => 0)), .inr (7, [.ref 22, .int 0]), .inl (1, 272, .inl (fun _ => 0)), .inr (9, [.int 3, .int 3, .int 3, .int 0, .int 3, .int 0, .int 0, .ref 24, .ref 25, .ref 26, .int 0, .int 0, .ref 27, .ref 28, .ref 29, .ref 30, .ref 31, .null, .int 0, .null, .null, .null, .int 0, .null, .int 0, .int 0, .int 0, .int 0]), .inl (0, 16, .inl (fun _ => 0)), .inl (0, 6, .inl (fun _ => 0)), .inl (0, 16, .inl (fun _ => 0)), .inl (0, 6, .inl (fun _ => 0)), .inl (0, 6, .inl (fun _ => 0)), .inl (0, 6, .inl (fun _ => 0)), .inl (0, 17, .inl (fun _ => 0)), .inl (2, 17, .inl (fun _ => 0))]
def wk_85 : List va_E := [.inr (8, [.ref 1, .ref 2, .ref 4, .ref 5, .ref 9, .ref 12, .ref 19, .ref 21]), .inr (0, [.int 3, .int 3, .int 3, .int 0, .int 0, .int 7399, .int 7]), .inr (3, [.ref 1, .ref 3, .int 0, .int 0]), .inl (0, 16, .inl (fun _ => 0)), .inr (5, [.ref 1]), .inr (2, [.ref 1, .ref 2, .ref 4, .ref 6, .ref 7, .ref 8, .int 3, .int 0]), .inl (0, 6, .inl (fiF (fun _ => 0) 1 6)), .inl (0, 102, .inl (fiF (fun _ => 0) 2 102)), .inl (0, 102, .inl (fun _ => 0)), .inr (4, [.ref 1, .ref 2, .ref 5, .ref 10]), .inr (7, [.ref 11, .int 0]), .inl (1, 272, .inl (fun _ => 0)), .inr (1, [.ref 13, .ref 14, .ref 15, .int 0, .ref 16, .ref 17, .ref 18]), .inl (0, 12, .inl (fun _ => 0)), .inl (0, 12, .inl (fun _ => 0)), .inl (0, 12, .inl (fun _ => 0)), .inl (0, 202, .inl (fun _ => 0)), .inl (0, 202, .inl (fun _ => 0)), .inl (0, 202, .inl (fun _ => 0)), .inr (6, [.ref 20, .int 0, .int 0, .int 0, .int 0, .int 0]), .inl (0, 120, .inl (fun _ => 0)), .inr (7, [.ref 22, .int 0]), .inl (1, 272, .inl (fun _ => 0)), .inr (9, [.int 3, .int 3, .int 3, .int 0, .int 3, .int 0, .int 0, .ref 24, .ref 25, .ref 26, .int 0, .int 0, .ref 27, .ref 28, .ref 29, .ref 30, .ref 31, .null, .int 0, .null, .null, .null, .int 0, .null, .int 0, .int 0, .int 0, .int 0]), .inl (0, 16, .inl (fun _ => 0)), .inl (0, 6, .inl (fun _ => 0)), .inl (0, 16, .inl (fun _ => 0)), .inl (0, 6, .inl (fun _ => 0)), .inl (0, 6, .inl (fun _ => 0)), .inl (0, 6, .inl (fun _ => 0)), .inl (0, 17, .inl (fun _ => 0)), .inl (2, 17, .inl (fun _ => 0)), .inl (1, 600, .inl (fun _ => 0))]
def wk_86 : List va_E := [.inr (8, [.ref 1, .ref 2, .ref 4, .ref 5, .ref 9, .ref 12, .ref 19, .ref 21]), .inr (0, [.int 3, .int 3, .int 3, .int 0, .int 0, .int 7399, .int 7]), .inr (3, [.ref 1, .ref 3, .int 0, .int 0]), .inl (0, 16, .inl (fun _ => 0)), .inr (5, [.ref 1]), .inr (2, [.ref 1, .ref 2, .ref 4, .ref 6, .ref 7, .ref 8, .int 3, .int 0]), .inl (0, 6, .inl (fiF (fun _ => 0) 1 6)), .inl (0, 102, .inl (fiF (fun _ => 0) 2 102)), .inl (0, 102, .inl (fun _ => 0)), .inr (4, [.ref 1, .ref 2, .ref 5, .ref 10]), .inr (7, [.ref 11, .int 0]), .inl (1, 272, .inl (fun _ => 0)), .inr (1, [.ref 13, .ref 14, .ref 15, .int 0, .ref 16, .ref 17, .ref 18]), .inl (0, 12, .inl (fun _ => 0)), .inl (0, 12, .inl (fun _ => 0)), .inl (0, 12, .inl (fun _ => 0)), .inl (0, 202, .inl (fun _ => 0)), .inl (0, 202, .inl (fun _ => 0)), .inl (0, 202, .inl (fun _ => 0)), .inr (6, [.ref 20, .int 0, .int 0, .int 0, .int 0, .int 0]), .inl (0, 120, .inl (fun _ => 0)), .inr (7, [.ref 22, .int 0]), .inl (1, 272, .inl (fun _ => 0)), .inr (9, [.int 3, .int 3, .int 3, .int 0, .int 3, .int 0, .int 0, .ref 24, .ref 25, .ref 26, .int 0, .int 0, .ref 27, .ref 28, .ref 29, .ref 30, .ref 31, .ref 32, .int 0, .null, .null, .null, .int 0, .null, .int 0, .int 0, .int 0, .int 0]), .inl (0, 16, .inl (fun _ => 0)), .inl (0, 6, .inl (fun _ => 0)), .inl (0, 16, .inl (fun _ => 0)), .inl (0, 6, .inl (fun _ => 0)), .inl (0, 6, .inl (fun _ => 0)), .inl (0, 6, .inl (fun _ => 0)), .inl (0, 17, .inl (fun _ => 0)), .inl (2, 17, .inl (fun _ => 0)), .inl (1, 600, .inl (fun _ => 0))]
def wk_87 : List va_E := [.inr (8, [.ref 1, .ref 2, .ref 4, .ref 5, .ref 9, .ref 12, .ref 19, .ref 21]), .inr (0, [.int 3, .int 3, .int 3, .int 0, .int 0, .int 7399, .int 7]), .inr (3, [.ref 1, .ref 3, .int 0, .int 0]), .inl (0, 16, .inl (fun _ => 0)), .inr (5, [.ref 1]), .inr (2, [.ref 1, .ref 2, .ref 4, .ref 6, .ref 7, .ref 8, .int 3, .int 0]), .inl (0, 6, .inl (fiF (fun _ => 0) 1 6)), .inl (0, 102, .inl (fiF (fun _ => 0) 2 102)), .inl (0, 102, .inl (fun _ => 0)), .inr (4, [.ref 1, .ref 2, .ref 5, .ref 10]), .inr (7, [.ref 11, .int 0]), .inl (1, 272, .inl (fun _ => 0)), .inr (1, [.ref 13, .ref 14, .ref 15, .int 0, .ref 16, .ref 17, .ref 18]), .inl (0, 12, .inl (fun _ => 0)), .inl (0, 12, .inl (fun _ => 0)), .inl (0, 12, .inl (fun _ => 0)), .inl (0, 202, .inl (fun _ => 0)), .inl (0, 202, .inl (fun _ => 0)), .inl (0, 202, .inl (fun _ => 0)), .inr (6, [.ref 20, .int 0, .int 0, .int 0, .int 0, .int 0]), .inl (0, 120, .inl (fun _ => 0)), .inr (7, [.ref 22, .int 0]), .inl (1, 272, .inl (fun _ => 0)), .inr (9, [.int 3, .int 3, .int 3, .int 0, .int 3, .int 0, .int 0, .ref 24, .ref 25, .ref 26, .int 0, .int 0, .ref 27, .ref 28, .ref 29, .ref 30, .ref 31, .ref 32, .int 0, .null, .null, .null, .int 0, .null, .int 0, .int 0, .int 0, .int 0]), .inl (0, 16, .inl (fun _ => 0)), .inl (0, 6, .inl (fun _ => 0)), .inl (0, 16, .inl (fun _ => 0)), .inl (0, 6, .inl (fun _ => 0)), .inl (0, 6, .inl (fun _ => 0)), .inl (0, 6, .inl (fun _ => 0)), .inl (0, 17, .inl (fun _ => 0)), .inl (2, 17, .inl (fun _ => 0)), .inl (1, 600, .inl (fun _ => 0)), .inl (0, 12, .inl (fun _ => 0))]
def wk_88 : List va_E := [.inr (8, [.ref 1, .ref 2, .ref 4, .ref 5, .ref 9, .ref 12, .ref 19, .ref 21]), .inr (0, [.int 3, .int 3, .int 3, .int 0, .int 0, .int 7399, .int 7]), .inr (3, [.ref 1, .ref 3, .int 0, .int 0]), .inl (0, 16, .inl (fun _ => 0)), .inr (5, [.ref 1]), .inr (2, [.ref 1, .ref 2, .ref 4, .ref 6, .ref 7, .ref 8, .int 3, .int 0]), .inl (0, 6, .inl (fiF (fun _ => 0) 1 6)), .inl (0, 102, .inl (fiF (fun _ => 0) 2 102)), .inl (0, 102, .inl (fun _ => 0)), .inr (4, [.ref 1, .ref 2, .ref 5, .ref 10]), .inr (7, [.ref 11, .int 0]), .inl (1, 272, .inl (fun _ => 0)), .inr (1, [.ref 13, .ref 14, .ref 15, .int 0, .ref 16, .ref 17, .ref 18]), .inl (0, 12, .inl (fun _ => 0)), .inl (0, 12, .inl (fun _ => 0)), .inl (0, 12, .inl (fun _ => 0)), .inl (0, 202, .inl (fun _ => 0)), .inl (0, 202, .inl (fun _ => 0)), .inl (0, 202, .inl (fun _ => 0)), .inr (6, [.ref 20, .int 0, .int 0, .int 0, .int 0, .int 0]), .inl (0, 120, .inl (fun _ => 0)), .inr (7, [.ref 22, .int 0]), .inl (1, 272, .inl (fun _ => 0)), .inr (9, [.int 3, .int 3, .int 3, .int 0, .int 3, .int 0, .int 0, .ref 24, .ref 25, .ref 26, .int 0, .int 0, .ref 27, .ref 28, .ref 29, .ref 30, .ref 31, .ref 32, .int 0, .ref 33, .null, .null, .int 0, .null, .int 0, .int 0, .int 0, .int 0]), .inl (0, 16, .inl (fun _ => 0)), .inl (0, 6, .inl (fun _ => 0)), .inl (0, 16, .inl (fun _ => 0)), .inl (0, 6, .inl (fun _ => 0)), .inl (0, 6, .inl (fun _ => 0)), .inl (0, 6, .inl (fun _ => 0)), .inl (0, 17, .inl (fun _ => 0)), .inl (2, 17, .inl (fun _ => 0)), .inl (1, 600, .inl (fun _ => 0)), .inl (0, 12, .inl (fun _ => 0))]
def wk_89 : List va_E := [.inr (8, [.ref 1, .ref 2, .ref 4, .ref 5, .ref 9, .ref 12, .ref 19, .ref 21]), .inr (0, [.int 3, .int 3, .int 3, .int 0, .int 0, .int 7399, .int 7]), .inr (3, [.ref 1, .ref 3, .int 0, .int 0]), .inl (0, 16, .inl (fun _ => 0)), .inr (5, [.ref 1]), .inr (2, [.ref 1, .ref 2, .ref 4, .ref 6, .ref 7, .ref 8, .int 3, .int 0]), .inl (0, 6, .inl (fiF (fun _ => 0) 1 6)), .inl (0, 102, .inl (fiF (fun _ => 0) 2 102)), .inl (0, 102, .inl (fun _ => 0)), .inr (4, [.ref 1, .ref 2, .ref 5, .ref 10]), .inr (7, [.ref 11, .int 0]), .inl (1, 272, .inl (fun _ => 0)), .inr (1, [.ref 13, .ref 14, .ref 15, .int 0, .ref 16, .ref 17, .ref 18]), .inl (0, 12, .inl (fun _ => 0)), .inl (0, 12, .inl (fun _ => 0)), .inl (0, 12, .inl (fun _ => 0)), .inl (0, 202, .inl (fun _ => 0)), .inl (0, 202, .inl (fun _ => 0)), .inl (0, 202, .inl (fun _ => 0)), .inr (6, [.ref 20, .int 0, .int 0, .int 0, .int 0, .int 0]), .inl (0, 120, .inl (fun _ => 0)), .inr (7, [.ref 22, .int 0]), .inl (1, 272, .inl (fun _ => 0)), .inr (9, [.int 3, .int 3, .int 3, .int 0, .int 3, .int 0, .int 0, .ref 24, .ref 25, .ref 26, .int 0, .int 0, .ref 27, .ref 28, .ref 29, .ref 30, .ref 31, .ref 32, .int 0, .ref 33, .null, .null, .int 0, .null, .int 0, .int 0, .int 0, .int 0]), .inl (0, 16, .inl (fun _ => 0)), .inl (0, 6, .inl (fun _ => 0)), .inl (0, 16, .inl (fun _ => 0)), .inl (0, 6, .inl (fun _ => 0)), .inl (0, 6, .inl (fun _ => 0)), .inl (0, 6, .inl (fun _ => 0)), .inl (0, 17, .inl (fun _ => 0)), .inl (2, 17, .inl (fun _ => 0)), .inl (1, 600, .inl (fun _ => 0)), .inl (0, 12, .inl (fun _ => 0)), .inl (0, 12, .inl (fun _ => 0))]
def wk_90 : List va_E := [.inr (8, [.ref 1, .ref 2, .ref 4, .ref 5, .ref 9, .ref 12, .ref 19, .ref 21]), .inr (0, [.int 3, .int 3, .int 3, .int 0, .int 0, .int 7399, .int 7]), .inr (3, [.ref 1, .ref 3, .int 0, .int 0]), .inl (0, 16, .inl (fun _ => 0)), .inr (5, [.ref 1]), .inr (2, [.ref 1, .ref 2, .ref 4, .ref 6, .ref 7, .ref 8, .int 3, .int 0]), .inl (0, 6, .inl (fiF (fun _ => 0) 1 6)), .inl (0, 102, .inl (fiF (fun _ => 0) 2 102)), .inl (0, 102, .inl (fun _ => 0)), .inr (4, [.ref 1, .ref 2, .ref 5, .ref 10]), .inr (7, [.ref 11, .int 0]), .inl (1, 272, .inl (fun _ => 0)), .inr (1, [.ref 13, .ref 14, .ref 15, .int 0, .ref 16, .ref 17, .ref 18]), .inl (0, 12, .inl (fun _ => 0)), .inl (0, 12, .inl (fun _ => 0)), .inl (0, 12, .inl (fun _ => 0)), .inl (0, 202, .inl (fun _ => 0)), .inl (0, 202, .inl (fun _ => 0)), .inl (0, 202, .inl (fun _ => 0)), .inr (6, [.ref 20, .int 0, .int 0, .int 0, .int 0, .int 0]), .inl (0, 120, .inl (fun _ => 0)), .inr (7, [.ref 22, .int 0]), .inl (1, 272, .inl (fun _ => 0)), .inr (9, [.int 3, .int 3, .int 3, .int 0, .int 3, .int 0, .int 0, .ref 24, .ref 25, .ref 26, .int 0, .int 0, .ref 27, .ref 28, .ref 29, .ref 30, .ref 31, .ref 32, .int 0, .ref 33, .ref 34, .null, .int 0, .null, .int 0, .int 0, .int 0, .int 0]), .inl (0, 16, .inl (fun _ => 0)), .inl (0, 6, .inl (fun _ => 0)), .inl (0, 16, .inl (fun _ => 0)), .inl (0, 6, .inl (fun _ => 0)), .inl (0, 6, .inl (fun _ => 0)), .inl (0, 6, .inl (fun _ => 0)), .inl (0, 17, .inl (fun _ => 0)), .inl (2, 17, .inl (fun _ => 0)), .inl (1, 600, .inl (fun _ => 0)), .inl (0, 12, .inl (fun _ => 0)), .inl (0, 12, .inl (fun _ => 0))]
def wk_91 : List va_E := [.inr (8, [.ref 1, .ref 2, .ref 4, .ref 5, .ref 9, .ref 12, .ref 19, .ref 21]), .inr (0, [.int 3, .int 3, .int 3, .int 0, .int 0, .int 7399, .int 7]), .inr (3, [.ref 1, .ref 3, .int 0, .int 0]), .inl (0, 16, .inl (fun _ => 0)), .inr (5, [.ref 1]), .inr (2, [.ref 1, .ref 2, .ref 4, .ref 6, .ref 7, .ref 8, .int 3, .int 0]), .inl (0, 6, .inl (fiF (fun _ => 0) 1 6)), .inl (0, 102, .inl (fiF (fun _ => 0) 2 102)), .inl (0, 102, .inl (fun _ => 0)), .inr (4, [.ref 1, .ref 2, .ref 5, .ref 10]), .inr (7, [.ref 11, .int 0]), .inl (1, 272, .inl (fun _ => 0)), .inr (1, [.ref 13, .ref 14, .ref 15, .int 0, .ref 16, .ref 17, .ref 18]), .inl (0, 12, .inl (fun _ => 0)), .inl (0, 12, .inl (fun _ => 0)), .inl (0, 12, .inl (fun _ => 0)), .inl (0, 202, .inl (fun _ => 0)), .inl (0, 202, .inl (fun _ => 0)), .inl (0, 202, .inl (fun _ => 0)), .inr (6, [.ref 20, .int 0, .int 0, .int 0, .int 0, .int 0]), .inl (0, 120, .inl (fun _ => 0)), .inr (7, [.ref 22, .int 0]), .inl (1, 272, .inl (fun _ => 0)), .inr (9, [.int 3, .int 3, .int 3, .int 0, .int 3, .int 0, .int 0, .ref 24, .ref 25, .ref 26, .int 0, .int 0, .ref 27, .ref 28, .ref 29, .ref 30, .ref 31, .ref 32, .int 0, .ref 33, .ref 34, .null, .int 0, .null, .int 0, .int 0, .int 0, .int 0]), .inl (0, 16, .inl (fun _ => 0)), .inl (0, 6, .inl (fun _ => 0)), .inl (0, 16, .inl (fun _ => 0)), .inl (0, 6, .inl (fun _ => 0)), .inl (0, 6, .inl (fun _ => 0)), .inl (0, 6, .inl (fun _ => 0)), .inl (0, 17, .inl (fun _ => 0)), .inl (2, 17, .inl (fun _ => 0)), .inl (1, 600, .inl (fun _ => 0)), .inl (0, 12, .inl (fun _ => 0)), .inl (0, 12, .inl (fun _ => 0)), .inl (0, 12, .inl (fun _ => 0))]
def wk_92 : List va_E := [.inr (8, [.ref 1, .ref 2, .ref 4, .ref 5, .ref 9, .ref 12, .ref 19, .ref 21]), .inr (0, [.int 3, .int 3, .int 3, .int 0, .int 0, .int 7399, .int 7]), .inr (3, [.ref 1, .ref 3, .int 0, .int 0]), .inl (0, 16, .inl (fun _ => 0)), .inr (5, [.ref 1]), .inr (2, [.ref 1, .ref 2, .ref 4, .ref 6, .ref 7, .ref 8, .int 3, .int 0]), .inl (0, 6, .inl (fiF (fun _ => 0) 1 6)), .inl (0, 102, .inl (fiF (fun _ => 0) 2 102)), .inl (0, 102, .inl (fun _ => 0)), .inr (4, [.ref 1, .ref 2, .ref 5, .ref 10]), .inr (7, [.ref 11, .int 0]), .inl (1, 272, .inl (fun _ => 0)), .inr (1, [.ref 13, .ref 14, .ref 15, .int 0, .ref 16, .ref 17, .ref 18]), .inl (0, 12, .inl (fun _ => 0)), .inl (0, 12, .inl (fun _ => 0)), .inl (0, 12, .inl (fun _ => 0)), .inl (0, 202, .inl (fun _ => 0)), .inl (0, 202, .inl (fun _ => 0)), .inl (0, 202, .inl (fun _ => 0)), .inr (6, [.ref 20, .int 0, .int 0, .int 0, .int 0, .int 0]), .inl (0, 120, .inl (fun _ => 0)), .inr (7, [.ref 22, .int 0]), .inl (1, 272, .inl (fun _ => 0)), .inr (9, [.int 3, .int 3, .int 3, .int 0, .int 3, .int 0, .int 0, .ref 24, .ref 25, .ref 26, .int 0, .int 0, .ref 27, .ref 28, .ref 29, .ref 30, .ref 31, .ref 32, .int 0, .ref 33, .ref 34, .ref 35, .int 0, .null, .int 0, .int 0, .int 0, .int 0]), .inl (0, 16, .inl (fun _ => 0)), .inl (0, 6, .inl (fun _ => 0)), .inl (0, 16, .inl (fun _ => 0)), .inl (0, 6, .inl (fun _ => 0)), .inl (0, 6, .inl (fun _ => 0)), .inl (0, 6, .inl (fun _ => 0)), .inl (0, 17, .inl (fun _ => 0)), .inl (2, 17, .inl (fun _ => 0)), .inl (1, 600, .inl (fun _ => 0)), .inl (0, 12, .inl (fun _ => 0)), .inl (0, 12, .inl (fun _ => 0)), .inl (0, 12, .inl (fun _ => 0))]
def wk_93 : List va_E := [.inr (8, [.ref 1, .ref 2, .ref 4, .ref 5, .ref 9, .ref 12, .ref 19, .ref 21]), .inr (0, [.int 3, .int 3, .int 3, .int 0, .int 0, .int 7399, .int 7]), .inr (3, [.ref 1, .ref 3, .int 0, .int 0]), .inl (0, 16, .inl (fun _ => 0)), .inr (5, [.ref 1]), .inr (2, [.ref 1, .ref 2, .ref 4, .ref 6, .ref 7, .ref 8, .int 3, .int 0]), .inl (0, 6, .inl (fiF (fun _ => 0) 1 6)), .inl (0, 102, .inl (fiF (fun _ => 0) 2 102)), .inl (0, 102, .inl (fun _ => 0)), .inr (4, [.ref 1, .ref 2, .ref 5, .ref 10]), .inr (7, [.ref 11, .int 0]), .inl (1, 272, .inl (fun _ => 0)), .inr (1, [.ref 13, .ref 14, .ref 15, .int 0, .ref 16, .ref 17, .ref 18]), .inl (0, 12, .inl (fun _ => 0)), .inl (0, 12, .inl (fun _ => 0)), .inl (0, 12, .inl (fun _ => 0)), .inl (0, 202, .inl (fun _ => 0)), .inl (0, 202, .inl (fun _ => 0)), .inl (0, 202, .inl (fun _ => 0)), .inr (6, [.ref 20, .int 0, .int 0, .int 0, .int 0, .int 0]), .inl (0, 120, .inl (fun _ => 0)), .inr (7, [.ref 22, .int 0]), .inl (1, 272, .inl (fun _ => 0)), .inr (9, [.int 3, .int 3, .int 3, .int 0, .int 3, .int 0, .int 0, .ref 24, .ref 25, .ref 26, .int 0, .int 0, .ref 27, .ref 28, .ref 29, .ref 30, .ref 31, .ref 32, .int 0, .ref 33, .ref 34, .ref 35, .int 0, .null, .int 0, .int 0, .int 0, .int 0]), .inl (0, 16, .inl (fun _ => 0)), .inl (0, 6, .inl (fun _ => 0)), .inl (0, 16, .inl (fun _ => 0)), .inl (0, 6, .inl (fun _ => 0)), .inl (0, 6, .inl (fun _ => 0)), .inl (0, 6, .inl (fun _ => 0)), .inl (0, 17, .inl (fun _ => 0)), .inl (2, 17, .inl (fun _ => 0)), .inl (1, 600, .inl (fun _ => 0)), .inl (0, 12, .inl (fun _ => 0)), .inl (0, 12, .inl (fun _ => 0)), .inl (0, 12, .inl (fun _ => 0)), .inl (1, 120, .inl (fun _ => 0))]
def wk_94 : List va_E := [.inr (8, [.ref 1, .ref 2, .ref 4, .ref 5, .ref 9, .ref 12, .ref 19, .ref 21]), .inr (0, [.int 3, .int 3, .int 3, .int 0, .int 0, .int 7399, .int 7]), .inr (3, [.ref 1, .ref 3, .int 0, .int 0]), .inl (0, 16, .inl (fun _ => 0)), .inr (5, [.ref 1]), .inr (2, [.ref 1, .ref 2, .ref 4, .ref 6, .ref 7, .ref 8, .int 3, .int 0]), .inl (0, 6, .inl (fiF (fun _ => 0) 1 6)), .inl (0, 102, .inl (fiF (fun _ => 0) 2 102)), .inl (0, 102, .inl (fun _ => 0)), .inr (4, [.ref 1, .ref 2, .ref 5, .ref 10]), .inr (7, [.ref 11, .int 0]), .inl (1, 272, .inl (fun _ => 0)), .inr (1, [.ref 13, .ref 14, .ref 15, .int 0, .ref 16, .ref 17, .ref 18]), .inl (0, 12, .inl (fun _ => 0)), .inl (0, 12, .inl (fun _ => 0)), .inl (0, 12, .inl (fun _ => 0)), .inl (0, 202, .inl (fun _ => 0)), .inl (0, 202, .inl (fun _ => 0)), .inl (0, 202, .inl (fun _ => 0)), .inr (6, [.ref 20, .int 0, .int 0, .int 0, .int 0, .int 0]), .inl (0, 120, .inl (fun _ => 0)), .inr (7, [.ref 22, .int 0]), .inl (1, 272, .inl (fun _ => 0)), .inr (9, [.int 3, .int 3, .int 3, .int 0, .int 3, .int 0, .int 0, .ref 24, .ref 25, .ref 26, .int 0, .int 0, .ref 27, .ref 28, .ref 29, .ref 30, .ref 31, .ref 32, .int 0, .ref 33, .ref 34, .ref 35, .int 0, .ref 36, .int 0, .int 0, .int 0, .int 0]), .inl (0, 16, .inl (fun _ => 0)), .inl (0, 6, .inl (fun _ => 0)), .inl (0, 16, .inl (fun _ => 0)), .inl (0, 6, .inl (fun _ => 0)), .inl (0, 6, .inl (fun _ => 0)), .inl (0, 6, .inl (fun _ => 0)), .inl (0, 17, .inl (fun _ => 0)), .inl (2, 17, .inl (fun _ => 0)), .inl (1, 600, .inl (fun _ => 0)), .inl (0, 12, .inl (fun _ => 0)), .inl (0, 12, .inl (fun _ => 0)), .inl (0, 12, .inl (fun _ => 0)), .inl (1, 120, .inl (fun _ => 0))]
def f_X9_init_tail_131 : Nat → gS → Int32 → Option gS
  | 0, _, _ => none
  | φ + 1, s, x1 =>
    if 6 ≤ x1 then
      (f_X9_forgets s).bind fun r2 =>
      some r2
    else
      if inB x1 6 = true then
        f_X9_init_tail_131 φ (sa s 21 x1.toNatClampNeg 1) (x1 + 1)
      else none
set_option maxHeartbeats 4000000 in
set_option maxRecDepth 100000 in
theorem b_X9_init_tail_131 (r : gS) (mc ms k n : Nat) (hkn : k ≤ mc ∧ n ≤ ms) : ∀ (φ : Nat) (s : gS) (x1 : Int32) , f_X9_init_tail_131 φ s x1 = some r → Go gTr yX9_init cX9_init 2 none 2 mc ms (fun r9 w9 => r9 = none ∧ w9 = wW r) k n (wW s) 131 [some (.ref 23), some (.int x1)] [] := by
  intro φ
  induction φ with
  | zero =>
    intro s x1 h
    exact absurd h (by intro h0; cases h0)
  | succ φ ih =>
    intro s x1 h
    rw [f_X9_init_tail_131] at h
    refine go_iload_n (q := 132) dX9_init_131 rfl rfl ?_
    refine go_bipush (v := 6) (q := 134) dX9_init_132 (by decide) rfl ?_
    refine go_icmp_ge (tgt := 150) (q := 137) dX9_init_134 (by decide) rfl (fun c1 => ?_) (fun c1 => ?_)
    · replace h := g_pos c1 h
      refine go_aload_n (q := 151) dX9_init_150 rfl rfl ?_
      obtain ⟨r2, e3, h⟩ := g_bind h
      refine go_callV0 (q := 154) (as := []) (rest := []) (st2 := []) (w2 := wW r2) dX9_init_151 cX9_64 (t_X9_forgets s _ e3) (wg_23 _) rfl rfl rfl (Nat.le_of_ble_eq_true rfl) (by decide) hkn rfl rfl ?_
      cases h
      exact go_ret dX9_init_154 rfl hkn.1 hkn.2 ⟨rfl, rfl⟩
    · replace h := g_neg c1 h
      refine go_aload_n (q := 138) dX9_init_137 rfl rfl ?_
      refine go_get (v := .ref 25) (q := 141) dX9_init_138 fX9_26 (wg_23 _) rfl rfl ?_
      refine go_iload_n (q := 142) dX9_init_141 rfl rfl ?_
      refine go_iconst (v := 1) (q := 143) dX9_init_142 (by decide) rfl ?_
      obtain ⟨g4, h⟩ := g_guard h
      refine go_iast (w2 := wW (sa s 21 x1.toNatClampNeg 1)) (q := 144) dX9_init_143 (wg_25 _) (inB_in g4) (wa_25 _ _ _) rfl ?_
      refine go_iinc (v := x1 + 1) (ls2 := [some (.ref 23), some (.int (x1 + 1))]) (q := 147) dX9_init_144 (by decide) rfl rfl rfl rfl ?_
      refine go_goto (tgt := 131) dX9_init_147 (by decide) ?_
      refine go_ls (ls2 := [some (.ref 23), some (.int (x1 + 1))]) ⟨rfl, rfl, trivial⟩ ?_
      exact ih (sa s 21 x1.toNatClampNeg 1) (x1 + 1) h
def f_X9_init_tail (s : gS) : Option gS :=
  f_X9_init_tail_131 gφ s 0
set_option maxHeartbeats 4000000 in
set_option maxRecDepth 100000 in
theorem b_X9_init_tail (r : gS) (mc ms k n : Nat) (hkn : k ≤ mc ∧ n ≤ ms) : ∀ (s : gS) , f_X9_init_tail s = some r → Go gTr yX9_init cX9_init 2 none 2 mc ms (fun r9 w9 => r9 = none ∧ w9 = wW r) k n (wW s) 129 [some (.ref 23), none] [] := by
  intro s h
  rw [f_X9_init_tail] at h
  refine go_iconst (v := 0) (q := 130) dX9_init_129 (by decide) rfl ?_
  refine go_istore_n (ls2 := [some (.ref 23), some (.int 0)]) (q := 131) dX9_init_130 (by decide) rfl rfl ?_
  refine go_ls (ls2 := [some (.ref 23), some (.int 0)]) ⟨rfl, rfl, trivial⟩ ?_
  exact b_X9_init_tail_131 r mc ms k n hkn gφ s 0 h
/-- the numbers and rows when all cells are made -/
def s00 : gS := (fun k => match k with
  | 0 => 3
  | 1 => 3
  | 2 => 3
  | 5 => 7399
  | 6 => 7
  | 9 => 3
  | 20 => 3
  | 21 => 3
  | 22 => 3
  | 24 => 3
  | _ => 0, fun k => match k with
  | 1 => (fiF (fun _ => 0) 1 6)
  | 2 => (fiF (fun _ => 0) 2 102)
  | _ => fun _ => 0)
set_option maxHeartbeats 4000000 in
set_option maxRecDepth 100000 in
theorem mk_X9_init (r : gS) (h : f_X9_init_tail s00 = some r) : Cal 2 mX9_init [.ref 23] wk_64 13 846 none (wW r) := by
  refine Cal.of (by decide) (g_cats rfl) (Nat.le_of_ble_eq_true rfl) ?_
  refine go_aload_n (q := 1) dX9_init_0 rfl rfl ?_
  refine go_obj (q := 4) dX9_init_1 kw_42 (by decide) (Nat.le_of_ble_eq_true rfl) rfl ?_
  refine go_aload_n (q := 5) dX9_init_4 rfl rfl ?_
  refine go_iconst (v := 3) (q := 6) dX9_init_5 (by decide) rfl ?_
  refine go_put (w2 := wk_65) (q := 9) dX9_init_6 fX9_7 rfl (Nat.le_of_ble_eq_true rfl) (fun _ => rfl) (fun _ => rfl) rfl rfl ?_
  refine go_aload_n (q := 10) dX9_init_9 rfl rfl ?_
  refine go_iconst (v := 3) (q := 11) dX9_init_10 (by decide) rfl ?_
  refine go_put (w2 := wk_66) (q := 14) dX9_init_11 fX9_13 rfl (Nat.le_of_ble_eq_true rfl) (fun _ => rfl) (fun _ => rfl) rfl rfl ?_
  refine go_aload_n (q := 15) dX9_init_14 rfl rfl ?_
  refine go_iconst (v := 3) (q := 16) dX9_init_15 (by decide) rfl ?_
  refine go_put (w2 := wk_67) (q := 19) dX9_init_16 fX9_16 rfl (Nat.le_of_ble_eq_true rfl) (fun _ => rfl) (fun _ => rfl) rfl rfl ?_
  refine go_aload_n (q := 20) dX9_init_19 rfl rfl ?_
  refine go_iconst (v := 3) (q := 21) dX9_init_20 (by decide) rfl ?_
  refine go_put (w2 := wk_68) (q := 24) dX9_init_21 fX9_19 rfl (Nat.le_of_ble_eq_true rfl) (fun _ => rfl) (fun _ => rfl) rfl rfl ?_
  refine go_aload_n (q := 25) dX9_init_24 rfl rfl ?_
  refine go_bipush (v := 16) (q := 27) dX9_init_25 (by decide) rfl ?_
  refine go_newa (kd := 0) (ty := .int) (N := 16) (lw := 24) (k2 := 1) (n2 := 16) (w2 := wk_69) (q := 29) dX9_init_27 kw_12 rfl (fun _ => rfl) (fun _ _ h => h) rfl (by decide) (by decide) (by decide) rfl (by decide) ⟨rfl, rfl⟩ ⟨by decide, by decide⟩ rfl rfl ?_
  refine go_putF (w2 := wk_70) (q := 32) dX9_init_29 rfl fX9_22 rfl (Nat.le_of_ble_eq_true rfl) (fun _ => rfl) (fun _ => rfl) rfl rfl ?_
  refine go_aload_n (q := 33) dX9_init_32 rfl rfl ?_
  refine go_bipush (v := 6) (q := 35) dX9_init_33 (by decide) rfl ?_
  refine go_newa (kd := 0) (ty := .int) (N := 6) (lw := 25) (k2 := 2) (n2 := 22) (w2 := wk_71) (q := 37) dX9_init_35 kw_12 rfl (fun _ => rfl) (fun _ _ h => h) rfl (by decide) (by decide) (by decide) rfl (by decide) ⟨rfl, rfl⟩ ⟨by decide, by decide⟩ rfl rfl ?_
  refine go_putF (w2 := wk_72) (q := 40) dX9_init_37 rfl fX9_26 rfl (Nat.le_of_ble_eq_true rfl) (fun _ => rfl) (fun _ => rfl) rfl rfl ?_
  refine go_aload_n (q := 41) dX9_init_40 rfl rfl ?_
  refine go_bipush (v := 16) (q := 43) dX9_init_41 (by decide) rfl ?_
  refine go_newa (kd := 0) (ty := .int) (N := 16) (lw := 26) (k2 := 3) (n2 := 38) (w2 := wk_73) (q := 45) dX9_init_43 kw_12 rfl (fun _ => rfl) (fun _ _ h => h) rfl (by decide) (by decide) (by decide) rfl (by decide) ⟨rfl, rfl⟩ ⟨by decide, by decide⟩ rfl rfl ?_
  refine go_putF (w2 := wk_74) (q := 48) dX9_init_45 rfl fX9_29 rfl (Nat.le_of_ble_eq_true rfl) (fun _ => rfl) (fun _ => rfl) rfl rfl ?_
  refine go_aload_n (q := 49) dX9_init_48 rfl rfl ?_
  refine go_bipush (v := 6) (q := 51) dX9_init_49 (by decide) rfl ?_
  refine go_newa (kd := 0) (ty := .int) (N := 6) (lw := 27) (k2 := 4) (n2 := 44) (w2 := wk_75) (q := 53) dX9_init_51 kw_12 rfl (fun _ => rfl) (fun _ _ h => h) rfl (by decide) (by decide) (by decide) rfl (by decide) ⟨rfl, rfl⟩ ⟨by decide, by decide⟩ rfl rfl ?_
  refine go_putF (w2 := wk_76) (q := 56) dX9_init_53 rfl fX9_32 rfl (Nat.le_of_ble_eq_true rfl) (fun _ => rfl) (fun _ => rfl) rfl rfl ?_
  refine go_aload_n (q := 57) dX9_init_56 rfl rfl ?_
  refine go_bipush (v := 6) (q := 59) dX9_init_57 (by decide) rfl ?_
  refine go_newa (kd := 0) (ty := .int) (N := 6) (lw := 28) (k2 := 5) (n2 := 50) (w2 := wk_77) (q := 61) dX9_init_59 kw_12 rfl (fun _ => rfl) (fun _ _ h => h) rfl (by decide) (by decide) (by decide) rfl (by decide) ⟨rfl, rfl⟩ ⟨by decide, by decide⟩ rfl rfl ?_
  refine go_putF (w2 := wk_78) (q := 64) dX9_init_61 rfl fX9_35 rfl (Nat.le_of_ble_eq_true rfl) (fun _ => rfl) (fun _ => rfl) rfl rfl ?_
  refine go_aload_n (q := 65) dX9_init_64 rfl rfl ?_
  refine go_bipush (v := 6) (q := 67) dX9_init_65 (by decide) rfl ?_
  refine go_newa (kd := 0) (ty := .int) (N := 6) (lw := 29) (k2 := 6) (n2 := 56) (w2 := wk_79) (q := 69) dX9_init_67 kw_12 rfl (fun _ => rfl) (fun _ _ h => h) rfl (by decide) (by decide) (by decide) rfl (by decide) ⟨rfl, rfl⟩ ⟨by decide, by decide⟩ rfl rfl ?_
  refine go_putF (w2 := wk_80) (q := 72) dX9_init_69 rfl fX9_38 rfl (Nat.le_of_ble_eq_true rfl) (fun _ => rfl) (fun _ => rfl) rfl rfl ?_
  refine go_aload_n (q := 73) dX9_init_72 rfl rfl ?_
  refine go_bipush (v := 17) (q := 75) dX9_init_73 (by decide) rfl ?_
  refine go_newa (kd := 0) (ty := .int) (N := 17) (lw := 30) (k2 := 7) (n2 := 73) (w2 := wk_81) (q := 77) dX9_init_75 kw_12 rfl (fun _ => rfl) (fun _ _ h => h) rfl (by decide) (by decide) (by decide) rfl (by decide) ⟨rfl, rfl⟩ ⟨by decide, by decide⟩ rfl rfl ?_
  refine go_putF (w2 := wk_82) (q := 80) dX9_init_77 rfl fX9_41 rfl (Nat.le_of_ble_eq_true rfl) (fun _ => rfl) (fun _ => rfl) rfl rfl ?_
  refine go_aload_n (q := 81) dX9_init_80 rfl rfl ?_
  refine go_bipush (v := 17) (q := 83) dX9_init_81 (by decide) rfl ?_
  refine go_newa (kd := 2) (ty := .boolean) (N := 17) (lw := 31) (k2 := 8) (n2 := 90) (w2 := wk_83) (q := 85) dX9_init_83 kw_43 rfl (fun _ => rfl) (fun _ _ h => h) rfl (by decide) (by decide) (by decide) rfl (by decide) ⟨rfl, rfl⟩ ⟨by decide, by decide⟩ rfl rfl ?_
  refine go_putF (w2 := wk_84) (q := 88) dX9_init_85 rfl fX9_44 rfl (Nat.le_of_ble_eq_true rfl) (fun _ => rfl) (fun _ => rfl) rfl rfl ?_
  refine go_aload_n (q := 89) dX9_init_88 rfl rfl ?_
  refine go_sipush (v := 600) (q := 92) dX9_init_89 (by decide) rfl ?_
  refine go_newa (kd := 1) (ty := .byte) (N := 600) (lw := 32) (k2 := 9) (n2 := 690) (w2 := wk_85) (q := 94) dX9_init_92 kw_29 rfl (fun _ => rfl) (fun _ _ h => h) rfl (by decide) (by decide) (by decide) rfl (by decide) ⟨rfl, rfl⟩ ⟨by decide, by decide⟩ rfl rfl ?_
  refine go_putF (w2 := wk_86) (q := 97) dX9_init_94 rfl fX9_48 rfl (Nat.le_of_ble_eq_true rfl) (fun _ => rfl) (fun _ => rfl) rfl rfl ?_
  refine go_aload_n (q := 98) dX9_init_97 rfl rfl ?_
  refine go_bipush (v := 12) (q := 100) dX9_init_98 (by decide) rfl ?_
  refine go_newa (kd := 0) (ty := .int) (N := 12) (lw := 33) (k2 := 10) (n2 := 702) (w2 := wk_87) (q := 102) dX9_init_100 kw_12 rfl (fun _ => rfl) (fun _ _ h => h) rfl (by decide) (by decide) (by decide) rfl (by decide) ⟨rfl, rfl⟩ ⟨by decide, by decide⟩ rfl rfl ?_
  refine go_putF (w2 := wk_88) (q := 105) dX9_init_102 rfl fX9_52 rfl (Nat.le_of_ble_eq_true rfl) (fun _ => rfl) (fun _ => rfl) rfl rfl ?_
  refine go_aload_n (q := 106) dX9_init_105 rfl rfl ?_
  refine go_bipush (v := 12) (q := 108) dX9_init_106 (by decide) rfl ?_
  refine go_newa (kd := 0) (ty := .int) (N := 12) (lw := 34) (k2 := 11) (n2 := 714) (w2 := wk_89) (q := 110) dX9_init_108 kw_12 rfl (fun _ => rfl) (fun _ _ h => h) rfl (by decide) (by decide) (by decide) rfl (by decide) ⟨rfl, rfl⟩ ⟨by decide, by decide⟩ rfl rfl ?_
  refine go_putF (w2 := wk_90) (q := 113) dX9_init_110 rfl fX9_55 rfl (Nat.le_of_ble_eq_true rfl) (fun _ => rfl) (fun _ => rfl) rfl rfl ?_
  refine go_aload_n (q := 114) dX9_init_113 rfl rfl ?_
  refine go_bipush (v := 12) (q := 116) dX9_init_114 (by decide) rfl ?_
  refine go_newa (kd := 0) (ty := .int) (N := 12) (lw := 35) (k2 := 12) (n2 := 726) (w2 := wk_91) (q := 118) dX9_init_116 kw_12 rfl (fun _ => rfl) (fun _ _ h => h) rfl (by decide) (by decide) (by decide) rfl (by decide) ⟨rfl, rfl⟩ ⟨by decide, by decide⟩ rfl rfl ?_
  refine go_putF (w2 := wk_92) (q := 121) dX9_init_118 rfl fX9_58 rfl (Nat.le_of_ble_eq_true rfl) (fun _ => rfl) (fun _ => rfl) rfl rfl ?_
  refine go_aload_n (q := 122) dX9_init_121 rfl rfl ?_
  refine go_bipush (v := 120) (q := 124) dX9_init_122 (by decide) rfl ?_
  refine go_newa (kd := 1) (ty := .byte) (N := 120) (lw := 36) (k2 := 13) (n2 := 846) (w2 := wk_93) (q := 126) dX9_init_124 kw_29 rfl (fun _ => rfl) (fun _ _ h => h) rfl (by decide) (by decide) (by decide) rfl (by decide) ⟨rfl, rfl⟩ ⟨by decide, by decide⟩ rfl rfl ?_
  refine go_putF (w2 := wk_94) (q := 129) dX9_init_126 rfl fX9_61 rfl (Nat.le_of_ble_eq_true rfl) (fun _ => rfl) (fun _ => rfl) rfl rfl ?_
  refine go_w (w2 := wW s00) rfl ?_
  exact b_X9_init_tail r 13 846 13 846 ⟨Nat.le_refl _, Nat.le_refl _⟩ s00 h
