def f_X3_clear (s : gS) : Option gS :=
  some (ss (ss s 7 0) 8 0)
set_option maxHeartbeats 4000000 in
set_option maxRecDepth 100000 in
theorem b_X3_clear (r : gS) : ∀ (s : gS) , f_X3_clear s = some r → Go gTr yX3_clear cX3_clear 1 none 1 0 0 (fun r9 w9 => r9 = none ∧ w9 = wW r) 0 0 (wW s) 0 [some (.ref 2)] [] := by
  intro s h
  rw [f_X3_clear] at h
  refine go_aload_n (q := 1) dX3_clear_0 rfl rfl ?_
  refine go_iconst (v := 0) (q := 2) dX3_clear_1 (by decide) rfl ?_
  refine go_put (w2 := wW (ss s 7 0)) (q := 5) dX3_clear_2 fX3_19 (wg_2 _) (Nat.le_of_ble_eq_true rfl) (fun _ => rfl) (fun _ => rfl) (wp_2_2 _ _) rfl ?_
  refine go_aload_n (q := 6) dX3_clear_5 rfl rfl ?_
  refine go_iconst (v := 0) (q := 7) dX3_clear_6 (by decide) rfl ?_
  refine go_put (w2 := wW (ss (ss s 7 0) 8 0)) (q := 10) dX3_clear_7 fX3_23 (wg_2 _) (Nat.le_of_ble_eq_true rfl) (fun _ => rfl) (fun _ => rfl) (wp_2_3 _ _) rfl ?_
  cases h
  exact go_ret dX3_clear_10 rfl (Nat.le_refl _) (Nat.le_refl _) ⟨rfl, rfl⟩
theorem t_X3_clear (s : gS) (r : gS) (h : f_X3_clear s = some r) : Cal 1 mX3_clear [.ref 2] (wW s) 0 0 none (wW r) := Cal.of (by decide) (g_cats rfl) (Nat.le_of_ble_eq_true rfl) (b_X3_clear r s h)
def f_X3_bitOfMove (s : gS) (x1 : Int32) : Option Int32 :=
  if x1 < 1 then
    some 0
  else
    if (s.1 7) < x1 then
      some 0
    else
      if 16 < x1 then
        some 0
      else
        if inB (x1 - 1) 16 = true then
          some (s.2 0 (x1 - 1).toNatClampNeg)
        else none
set_option maxHeartbeats 4000000 in
set_option maxRecDepth 100000 in
theorem b_X3_bitOfMove (s : gS) (r : Int32) : ∀ (x1 : Int32) , f_X3_bitOfMove s x1 = some r → Go gTr yX3_bitOfMove cX3_bitOfMove 2 (some .int) 1 0 0 (fun r9 w9 => r9 = some (.int r) ∧ w9 = wW s) 0 0 (wW s) 0 [some (.ref 2), some (.int x1)] [] := by
  intro x1 h
  rw [f_X3_bitOfMove] at h
  refine go_iload_n (q := 1) dX3_bitOfMove_0 rfl rfl ?_
  refine go_iconst (v := 1) (q := 2) dX3_bitOfMove_1 (by decide) rfl ?_
  refine go_icmp_lt (tgt := 33) (q := 5) dX3_bitOfMove_2 (by decide) rfl (fun c1 => ?_) (fun c1 => ?_)
  · replace h := g_pos c1 h
    refine go_iconst (v := 0) (q := 34) dX3_bitOfMove_33 (by decide) rfl ?_
    cases h
    exact go_iret dX3_bitOfMove_34 rfl rfl (Nat.le_refl _) (Nat.le_refl _) ⟨rfl, rfl⟩
  · replace h := g_neg c1 h
    refine go_iload_n (q := 6) dX3_bitOfMove_5 rfl rfl ?_
    refine go_aload_n (q := 7) dX3_bitOfMove_6 rfl rfl ?_
    refine go_get (v := .int (s.1 7)) (q := 10) dX3_bitOfMove_7 fX3_19 (wg_2 _) rfl rfl ?_
    refine go_icmp_gt (tgt := 33) (q := 13) dX3_bitOfMove_10 (by decide) rfl (fun c2 => ?_) (fun c2 => ?_)
    · replace h := g_pos c2 h
      refine go_iconst (v := 0) (q := 34) dX3_bitOfMove_33 (by decide) rfl ?_
      cases h
      exact go_iret dX3_bitOfMove_34 rfl rfl (Nat.le_refl _) (Nat.le_refl _) ⟨rfl, rfl⟩
    · replace h := g_neg c2 h
      refine go_iload_n (q := 14) dX3_bitOfMove_13 rfl rfl ?_
      refine go_aload_n (q := 15) dX3_bitOfMove_14 rfl rfl ?_
      refine go_get (v := .ref 3) (q := 18) dX3_bitOfMove_15 fX3_15 (wg_2 _) rfl rfl ?_
      refine go_alen (v := 16) (q := 19) dX3_bitOfMove_18 (by decide) (wg_3 _) rfl rfl ?_
      refine go_icmp_gt (tgt := 33) (q := 22) dX3_bitOfMove_19 (by decide) rfl (fun c3 => ?_) (fun c3 => ?_)
      · replace h := g_pos c3 h
        refine go_iconst (v := 0) (q := 34) dX3_bitOfMove_33 (by decide) rfl ?_
        cases h
        exact go_iret dX3_bitOfMove_34 rfl rfl (Nat.le_refl _) (Nat.le_refl _) ⟨rfl, rfl⟩
      · replace h := g_neg c3 h
        refine go_aload_n (q := 23) dX3_bitOfMove_22 rfl rfl ?_
        refine go_get (v := .ref 3) (q := 26) dX3_bitOfMove_23 fX3_15 (wg_2 _) rfl rfl ?_
        refine go_iload_n (q := 27) dX3_bitOfMove_26 rfl rfl ?_
        refine go_iconst (v := 1) (q := 28) dX3_bitOfMove_27 (by decide) rfl ?_
        refine go_isub (q := 29) dX3_bitOfMove_28 rfl ?_
        obtain ⟨g4, h⟩ := g_guard h
        refine go_iald (f := s.2 0) (q := 30) dX3_bitOfMove_29 (wg_3 _) (inB_in g4) rfl ?_
        refine go_goto (tgt := 34) dX3_bitOfMove_30 (by decide) ?_
        cases h
        exact go_iret dX3_bitOfMove_34 rfl rfl (Nat.le_refl _) (Nat.le_refl _) ⟨rfl, rfl⟩
theorem t_X3_bitOfMove (s : gS) (x1 : Int32) (r : Int32) (h : f_X3_bitOfMove s x1 = some r) : Cal 1 mX3_bitOfMove [.ref 2, .int x1] (wW s) 0 0 (some (.int r)) (wW s) := Cal.of (by decide) (g_cats rfl) (Nat.le_of_ble_eq_true rfl) (b_X3_bitOfMove s r x1 h)
def f_X3_stonesOf_7 : Nat → gS → Int32 → Int32 → Int32 → Option Int32
  | 0, _, _, _, _ => none
  | φ + 1, s, x2, x3, x4 =>
    if x2 < x4 then
      some x3
    else
      if 16 < x4 then
        some x3
      else
        (f_X3_bitOfMove s x4).bind fun r3 =>
        f_X3_stonesOf_7 φ s x2 (x3 ||| r3) (x4 + 2)
set_option maxHeartbeats 4000000 in
set_option maxRecDepth 100000 in
theorem b_X3_stonesOf_7 (s : gS) (r : Int32) : ∀ (φ : Nat) (x2 : Int32) (x3 : Int32) (x4 : Int32) , f_X3_stonesOf_7 φ s x2 x3 x4 = some r → Go gTr yX3_stonesOf cX3_stonesOf 5 (some .int) 2 0 0 (fun r9 w9 => r9 = some (.int r) ∧ w9 = wW s) 0 0 (wW s) 7 [some (.ref 2), none, some (.int x2), some (.int x3), some (.int x4)] [] := by
  intro φ
  induction φ with
  | zero =>
    intro x2 x3 x4 h
    exact absurd h (by intro h0; cases h0)
  | succ φ ih =>
    intro x2 x3 x4 h
    rw [f_X3_stonesOf_7] at h
    refine go_iload (q := 9) dX3_stonesOf_7 rfl rfl ?_
    refine go_iload_n (q := 10) dX3_stonesOf_9 rfl rfl ?_
    refine go_icmp_gt (tgt := 35) (q := 13) dX3_stonesOf_10 (by decide) rfl (fun c1 => ?_) (fun c1 => ?_)
    · replace h := g_pos c1 h
      refine go_iload_n (q := 36) dX3_stonesOf_35 rfl rfl ?_
      cases h
      exact go_iret dX3_stonesOf_36 rfl rfl (Nat.le_refl _) (Nat.le_refl _) ⟨rfl, rfl⟩
    · replace h := g_neg c1 h
      refine go_iload (q := 15) dX3_stonesOf_13 rfl rfl ?_
      refine go_bipush (v := 16) (q := 17) dX3_stonesOf_15 (by decide) rfl ?_
      refine go_icmp_gt (tgt := 35) (q := 20) dX3_stonesOf_17 (by decide) rfl (fun c2 => ?_) (fun c2 => ?_)
      · replace h := g_pos c2 h
        refine go_iload_n (q := 36) dX3_stonesOf_35 rfl rfl ?_
        cases h
        exact go_iret dX3_stonesOf_36 rfl rfl (Nat.le_refl _) (Nat.le_refl _) ⟨rfl, rfl⟩
      · replace h := g_neg c2 h
        refine go_iload_n (q := 21) dX3_stonesOf_20 rfl rfl ?_
        refine go_aload_n (q := 22) dX3_stonesOf_21 rfl rfl ?_
        refine go_iload (q := 24) dX3_stonesOf_22 rfl rfl ?_
        obtain ⟨r3, e4, h⟩ := g_bind h
        refine go_callV0 (q := 27) (as := [.int x4]) (rest := [.int x3]) (st2 := [.int r3, .int x3]) (w2 := wW s) dX3_stonesOf_24 cX3_41 (t_X3_bitOfMove s x4 _ e4) (wg_2 _) rfl rfl rfl (Nat.le_of_ble_eq_true rfl) (by decide) ⟨Nat.le_refl _, Nat.le_refl _⟩ rfl rfl ?_
        refine go_ior (q := 28) dX3_stonesOf_27 rfl ?_
        refine go_istore_n (ls2 := [some (.ref 2), none, some (.int x2), some (.int (x3 ||| r3)), some (.int x4)]) (q := 29) dX3_stonesOf_28 (by decide) rfl rfl ?_
        refine go_iinc (v := x4 + 2) (ls2 := [some (.ref 2), none, some (.int x2), some (.int (x3 ||| r3)), some (.int (x4 + 2))]) (q := 32) dX3_stonesOf_29 (by decide) rfl rfl rfl rfl ?_
        refine go_goto (tgt := 7) dX3_stonesOf_32 (by decide) ?_
        refine go_ls (ls2 := [some (.ref 2), none, some (.int x2), some (.int (x3 ||| r3)), some (.int (x4 + 2))]) ⟨rfl, rfl, rfl, rfl, trivial⟩ ?_
        exact ih x2 (x3 ||| r3) (x4 + 2) h
def f_X3_stonesOf (s : gS) (x1 : Int32) (x2 : Int32) : Option Int32 :=
  f_X3_stonesOf_7 gφ s x2 0 (x1 + 1)
set_option maxHeartbeats 4000000 in
set_option maxRecDepth 100000 in
theorem b_X3_stonesOf (s : gS) (r : Int32) : ∀ (x1 : Int32) (x2 : Int32) , f_X3_stonesOf s x1 x2 = some r → Go gTr yX3_stonesOf cX3_stonesOf 5 (some .int) 2 0 0 (fun r9 w9 => r9 = some (.int r) ∧ w9 = wW s) 0 0 (wW s) 0 [some (.ref 2), some (.int x1), some (.int x2), none, none] [] := by
  intro x1 x2 h
  rw [f_X3_stonesOf] at h
  refine go_iconst (v := 0) (q := 1) dX3_stonesOf_0 (by decide) rfl ?_
  refine go_istore_n (ls2 := [some (.ref 2), some (.int x1), some (.int x2), some (.int 0), none]) (q := 2) dX3_stonesOf_1 (by decide) rfl rfl ?_
  refine go_iload_n (q := 3) dX3_stonesOf_2 rfl rfl ?_
  refine go_iconst (v := 1) (q := 4) dX3_stonesOf_3 (by decide) rfl ?_
  refine go_iadd (q := 5) dX3_stonesOf_4 rfl ?_
  refine go_istore (ls2 := [some (.ref 2), some (.int x1), some (.int x2), some (.int 0), some (.int (x1 + 1))]) (q := 7) dX3_stonesOf_5 (by decide) rfl rfl ?_
  refine go_ls (ls2 := [some (.ref 2), none, some (.int x2), some (.int 0), some (.int (x1 + 1))]) ⟨rfl, rfl, rfl, rfl, trivial⟩ ?_
  exact b_X3_stonesOf_7 s r gφ x2 0 (x1 + 1) h
theorem t_X3_stonesOf (s : gS) (x1 : Int32) (x2 : Int32) (r : Int32) (h : f_X3_stonesOf s x1 x2 = some r) : Cal 2 mX3_stonesOf [.ref 2, .int x1, .int x2] (wW s) 0 0 (some (.int r)) (wW s) := Cal.of (by decide) (g_cats rfl) (Nat.le_of_ble_eq_true rfl) (b_X3_stonesOf s r x1 x2 h)
def f_X3_addMove_146 (s : gS) (t1 : Int32) : Option (Int32 × gS) :=
  some (1, (ss s 8 (t1 + 1)))
set_option maxHeartbeats 4000000 in
set_option maxRecDepth 100000 in
theorem b_X3_addMove_146 (r : Int32 × gS) : ∀ (s : gS) (t1 : Int32) , f_X3_addMove_146 s t1 = some r → Go gTr yX3_addMove cX3_addMove 6 (some .boolean) 3 0 0 (fun r9 w9 => r9 = some (.int r.1) ∧ w9 = wW r.2) 0 0 (wW s) 146 [none, none, none, none, none, none] [.int t1, .ref 2] := by
  intro s t1 h
  rw [f_X3_addMove_146] at h
  refine go_iconst (v := 1) (q := 147) dX3_addMove_146 (by decide) rfl ?_
  refine go_iadd (q := 148) dX3_addMove_147 rfl ?_
  refine go_put (w2 := wW (ss s 8 (t1 + 1))) (q := 151) dX3_addMove_148 fX3_23 (wg_2 _) (Nat.le_of_ble_eq_true rfl) (fun _ => rfl) (fun _ => rfl) (wp_2_3 _ _) rfl ?_
  refine go_goto (tgt := 172) dX3_addMove_151 (by decide) ?_
  refine go_iconst (v := 1) (q := 173) dX3_addMove_172 (by decide) rfl ?_
  cases h
  exact go_iret dX3_addMove_173 rfl rfl (Nat.le_refl _) (Nat.le_refl _) ⟨rfl, rfl⟩
def f_X3_addMove_99 (s : gS) (x1 : Int32) (x2 : Int32) (x4 : Int32) (t0 : Int32) : Option (Int32 × gS) :=
  if inB (s.1 7) 16 = true then
    if t0 = 0 then
      (f_X0_openCells (ss (sa s 0 ((s.1 7).toNatClampNeg) x1) 7 ((s.1 7) + 1)) (x2 ||| x1)).bind fun r3 =>
      if r3 = 0 then
        some (1, (ss (ss (sa s 0 ((s.1 7).toNatClampNeg) x1) 7 ((s.1 7) + 1)) 8 3))
      else
        some (1, (ss (sa s 0 ((s.1 7).toNatClampNeg) x1) 7 ((s.1 7) + 1)))
    else
      if (s.1 4) = 0 then
        f_X3_addMove_146 (ss (sa s 0 ((s.1 7).toNatClampNeg) x1) 7 ((s.1 7) + 1)) x4
      else
        f_X3_addMove_146 (ss (sa s 0 ((s.1 7).toNatClampNeg) x1) 7 ((s.1 7) + 1)) (1 - x4)
  else none
set_option maxHeartbeats 4000000 in
set_option maxRecDepth 100000 in
theorem b_X3_addMove_99 (r : Int32 × gS) : ∀ (s : gS) (x1 : Int32) (x2 : Int32) (x4 : Int32) (t0 : Int32) , f_X3_addMove_99 s x1 x2 x4 t0 = some r → Go gTr yX3_addMove cX3_addMove 6 (some .boolean) 3 0 0 (fun r9 w9 => r9 = some (.int r.1) ∧ w9 = wW r.2) 0 0 (wW s) 99 [some (.ref 2), some (.int x1), some (.int x2), none, some (.int x4), none] [.int t0] := by
  intro s x1 x2 x4 t0 h
  rw [f_X3_addMove_99] at h
  refine go_istore (ls2 := [some (.ref 2), some (.int x1), some (.int x2), none, some (.int x4), some (.int t0)]) (q := 101) dX3_addMove_99 (by decide) rfl rfl ?_
  refine go_aload_n (q := 102) dX3_addMove_101 rfl rfl ?_
  refine go_get (v := .ref 3) (q := 105) dX3_addMove_102 fX3_15 (wg_2 _) rfl rfl ?_
  refine go_aload_n (q := 106) dX3_addMove_105 rfl rfl ?_
  refine go_get (v := .int (s.1 7)) (q := 109) dX3_addMove_106 fX3_19 (wg_2 _) rfl rfl ?_
  refine go_iload_n (q := 110) dX3_addMove_109 rfl rfl ?_
  obtain ⟨g1, h⟩ := g_guard h
  refine go_iast (w2 := wW (sa s 0 ((s.1 7).toNatClampNeg) x1)) (q := 111) dX3_addMove_110 (wg_3 _) (inB_in g1) (wa_3 _ _ _) rfl ?_
  refine go_aload_n (q := 112) dX3_addMove_111 rfl rfl ?_
  refine go_dup (q := 113) dX3_addMove_112 rfl rfl ?_
  refine go_get (v := .int (s.1 7)) (q := 116) dX3_addMove_113 fX3_19 (wg_2 _) rfl rfl ?_
  refine go_iconst (v := 1) (q := 117) dX3_addMove_116 (by decide) rfl ?_
  refine go_iadd (q := 118) dX3_addMove_117 rfl ?_
  refine go_put (w2 := wW (ss (sa s 0 ((s.1 7).toNatClampNeg) x1) 7 ((s.1 7) + 1))) (q := 121) dX3_addMove_118 fX3_19 (wg_2 _) (Nat.le_of_ble_eq_true rfl) (fun _ => rfl) (fun _ => rfl) (wp_2_2 _ _) rfl ?_
  refine go_iload (q := 123) dX3_addMove_121 rfl rfl ?_
  refine go_if_eq (tgt := 154) (q := 126) dX3_addMove_123 (by decide) rfl (fun c2 => ?_) (fun c2 => ?_)
  · replace h := g_pos c2 h
    refine go_aload_n (q := 155) dX3_addMove_154 rfl rfl ?_
    refine go_get (v := .ref 1) (q := 158) dX3_addMove_155 fX3_7 (wg_2 _) rfl rfl ?_
    refine go_iload_n (q := 159) dX3_addMove_158 rfl rfl ?_
    refine go_iload_n (q := 160) dX3_addMove_159 rfl rfl ?_
    refine go_ior (q := 161) dX3_addMove_160 rfl ?_
    obtain ⟨r3, e4, h⟩ := g_bind h
    refine go_callV0 (q := 164) (as := [.int (x2 ||| x1)]) (rest := []) (st2 := [.int r3]) (w2 := wW (ss (sa s 0 ((s.1 7).toNatClampNeg) x1) 7 ((s.1 7) + 1))) dX3_addMove_161 cX3_30 (t_X0_openCells (ss (sa s 0 ((s.1 7).toNatClampNeg) x1) 7 ((s.1 7) + 1)) (x2 ||| x1) _ e4) (wg_1 _) rfl rfl rfl (Nat.le_of_ble_eq_true rfl) (by decide) ⟨Nat.le_refl _, Nat.le_refl _⟩ rfl rfl ?_
    refine go_if_ne (tgt := 172) (q := 167) dX3_addMove_164 (by decide) rfl (fun c5 => ?_) (fun c5 => ?_)
    · replace h := g_neg c5 h
      refine go_iconst (v := 1) (q := 173) dX3_addMove_172 (by decide) rfl ?_
      cases h
      exact go_iret dX3_addMove_173 rfl rfl (Nat.le_refl _) (Nat.le_refl _) ⟨rfl, rfl⟩
    · replace h := g_pos c5 h
      refine go_aload_n (q := 168) dX3_addMove_167 rfl rfl ?_
      refine go_iconst (v := 3) (q := 169) dX3_addMove_168 (by decide) rfl ?_
      refine go_put (w2 := wW (ss (ss (sa s 0 ((s.1 7).toNatClampNeg) x1) 7 ((s.1 7) + 1)) 8 3)) (q := 172) dX3_addMove_169 fX3_23 (wg_2 _) (Nat.le_of_ble_eq_true rfl) (fun _ => rfl) (fun _ => rfl) (wp_2_3 _ _) rfl ?_
      refine go_iconst (v := 1) (q := 173) dX3_addMove_172 (by decide) rfl ?_
      cases h
      exact go_iret dX3_addMove_173 rfl rfl (Nat.le_refl _) (Nat.le_refl _) ⟨rfl, rfl⟩
  · replace h := g_neg c2 h
    refine go_aload_n (q := 127) dX3_addMove_126 rfl rfl ?_
    refine go_aload_n (q := 128) dX3_addMove_127 rfl rfl ?_
    refine go_get (v := .ref 1) (q := 131) dX3_addMove_128 fX3_7 (wg_2 _) rfl rfl ?_
    refine go_get (v := .int (s.1 4)) (q := 134) dX3_addMove_131 fX3_37 (wg_1 _) rfl rfl ?_
    refine go_if_eq (tgt := 144) (q := 137) dX3_addMove_134 (by decide) rfl (fun c6 => ?_) (fun c6 => ?_)
    · replace h := g_pos c6 h
      refine go_iload (q := 146) dX3_addMove_144 rfl rfl ?_
      refine go_ls (ls2 := [none, none, none, none, none, none]) trivial ?_
      exact b_X3_addMove_146 r (ss (sa s 0 ((s.1 7).toNatClampNeg) x1) 7 ((s.1 7) + 1)) x4 h
    · replace h := g_neg c6 h
      refine go_iconst (v := 1) (q := 138) dX3_addMove_137 (by decide) rfl ?_
      refine go_iload (q := 140) dX3_addMove_138 rfl rfl ?_
      refine go_isub (q := 141) dX3_addMove_140 rfl ?_
      refine go_goto (tgt := 146) dX3_addMove_141 (by decide) ?_
      refine go_ls (ls2 := [none, none, none, none, none, none]) trivial ?_
      exact b_X3_addMove_146 r (ss (sa s 0 ((s.1 7).toNatClampNeg) x1) 7 ((s.1 7) + 1)) (1 - x4) h
def f_X3_addMove_38 (s : gS) (x1 : Int32) (x2 : Int32) (t0 : Int32) : Option (Int32 × gS) :=
  if t0 = 0 then
    some (0, s)
  else
    if (s.1 8) = 0 then
      if (s.1 7) < 16 then
        (f_X3_stonesOf s ((s.1 7) &&& 1) (s.1 7)).bind fun r4 =>
        (f_X0_completing s r4).bind fun r6 =>
        if (r6 &&& x1) = 0 then
          f_X3_addMove_99 s x1 x2 ((s.1 7) &&& 1) 0
        else
          f_X3_addMove_99 s x1 x2 ((s.1 7) &&& 1) 1
      else
        some (0, s)
    else
      some (0, s)
set_option maxHeartbeats 4000000 in
set_option maxRecDepth 100000 in
theorem b_X3_addMove_38 (r : Int32 × gS) : ∀ (s : gS) (x1 : Int32) (x2 : Int32) (t0 : Int32) , f_X3_addMove_38 s x1 x2 t0 = some r → Go gTr yX3_addMove cX3_addMove 6 (some .boolean) 3 0 0 (fun r9 w9 => r9 = some (.int r.1) ∧ w9 = wW r.2) 0 0 (wW s) 38 [some (.ref 2), some (.int x1), some (.int x2), none, none, none] [.int t0] := by
  intro s x1 x2 t0 h
  rw [f_X3_addMove_38] at h
  refine go_istore_n (ls2 := [some (.ref 2), some (.int x1), some (.int x2), some (.int t0), none, none]) (q := 39) dX3_addMove_38 (by decide) rfl rfl ?_
  refine go_iload_n (q := 40) dX3_addMove_39 rfl rfl ?_
  refine go_if_eq (tgt := 62) (q := 43) dX3_addMove_40 (by decide) rfl (fun c1 => ?_) (fun c1 => ?_)
  · replace h := g_pos c1 h
    refine go_iconst (v := 0) (q := 63) dX3_addMove_62 (by decide) rfl ?_
    cases h
    exact go_iret dX3_addMove_63 rfl rfl (Nat.le_refl _) (Nat.le_refl _) ⟨rfl, rfl⟩
  · replace h := g_neg c1 h
    refine go_aload_n (q := 44) dX3_addMove_43 rfl rfl ?_
    refine go_get (v := .int (s.1 8)) (q := 47) dX3_addMove_44 fX3_23 (wg_2 _) rfl rfl ?_
    refine go_if_ne (tgt := 62) (q := 50) dX3_addMove_47 (by decide) rfl (fun c2 => ?_) (fun c2 => ?_)
    · replace h := g_neg c2 h
      refine go_iconst (v := 0) (q := 63) dX3_addMove_62 (by decide) rfl ?_
      cases h
      exact go_iret dX3_addMove_63 rfl rfl (Nat.le_refl _) (Nat.le_refl _) ⟨rfl, rfl⟩
    · replace h := g_pos c2 h
      refine go_aload_n (q := 51) dX3_addMove_50 rfl rfl ?_
      refine go_get (v := .int (s.1 7)) (q := 54) dX3_addMove_51 fX3_19 (wg_2 _) rfl rfl ?_
      refine go_aload_n (q := 55) dX3_addMove_54 rfl rfl ?_
      refine go_get (v := .ref 3) (q := 58) dX3_addMove_55 fX3_15 (wg_2 _) rfl rfl ?_
      refine go_alen (v := 16) (q := 59) dX3_addMove_58 (by decide) (wg_3 _) rfl rfl ?_
      refine go_icmp_lt (tgt := 64) (q := 62) dX3_addMove_59 (by decide) rfl (fun c3 => ?_) (fun c3 => ?_)
      · replace h := g_pos c3 h
        refine go_aload_n (q := 65) dX3_addMove_64 rfl rfl ?_
        refine go_get (v := .int (s.1 7)) (q := 68) dX3_addMove_65 fX3_19 (wg_2 _) rfl rfl ?_
        refine go_iconst (v := 1) (q := 69) dX3_addMove_68 (by decide) rfl ?_
        refine go_iand (q := 70) dX3_addMove_69 rfl ?_
        refine go_istore (ls2 := [some (.ref 2), some (.int x1), some (.int x2), some (.int t0), some (.int ((s.1 7) &&& 1)), none]) (q := 72) dX3_addMove_70 (by decide) rfl rfl ?_
        refine go_aload_n (q := 73) dX3_addMove_72 rfl rfl ?_
        refine go_get (v := .ref 1) (q := 76) dX3_addMove_73 fX3_7 (wg_2 _) rfl rfl ?_
        refine go_aload_n (q := 77) dX3_addMove_76 rfl rfl ?_
        refine go_iload (q := 79) dX3_addMove_77 rfl rfl ?_
        refine go_aload_n (q := 80) dX3_addMove_79 rfl rfl ?_
        refine go_get (v := .int (s.1 7)) (q := 83) dX3_addMove_80 fX3_19 (wg_2 _) rfl rfl ?_
        obtain ⟨r4, e5, h⟩ := g_bind h
        refine go_callV0 (q := 86) (as := [.int ((s.1 7) &&& 1), .int (s.1 7)]) (rest := [.ref 1]) (st2 := [.int r4, .ref 1]) (w2 := wW s) dX3_addMove_83 cX3_26 (t_X3_stonesOf s ((s.1 7) &&& 1) (s.1 7) _ e5) (wg_2 _) rfl rfl rfl (Nat.le_of_ble_eq_true rfl) (by decide) ⟨Nat.le_refl _, Nat.le_refl _⟩ rfl rfl ?_
        obtain ⟨r6, e7, h⟩ := g_bind h
        refine go_callV0 (q := 89) (as := [.int r4]) (rest := []) (st2 := [.int r6]) (w2 := wW s) dX3_addMove_86 cX3_34 (t_X0_completing s r4 _ e7) (wg_1 _) rfl rfl rfl (Nat.le_of_ble_eq_true rfl) (by decide) ⟨Nat.le_refl _, Nat.le_refl _⟩ rfl rfl ?_
        refine go_iload_n (q := 90) dX3_addMove_89 rfl rfl ?_
        refine go_iand (q := 91) dX3_addMove_90 rfl ?_
        refine go_if_eq (tgt := 98) (q := 94) dX3_addMove_91 (by decide) rfl (fun c8 => ?_) (fun c8 => ?_)
        · replace h := g_pos c8 h
          refine go_iconst (v := 0) (q := 99) dX3_addMove_98 (by decide) rfl ?_
          refine go_ls (ls2 := [some (.ref 2), some (.int x1), some (.int x2), none, some (.int ((s.1 7) &&& 1)), none]) ⟨rfl, rfl, rfl, rfl, trivial⟩ ?_
          exact b_X3_addMove_99 r s x1 x2 ((s.1 7) &&& 1) 0 h
        · replace h := g_neg c8 h
          refine go_iconst (v := 1) (q := 95) dX3_addMove_94 (by decide) rfl ?_
          refine go_goto (tgt := 99) dX3_addMove_95 (by decide) ?_
          refine go_ls (ls2 := [some (.ref 2), some (.int x1), some (.int x2), none, some (.int ((s.1 7) &&& 1)), none]) ⟨rfl, rfl, rfl, rfl, trivial⟩ ?_
          exact b_X3_addMove_99 r s x1 x2 ((s.1 7) &&& 1) 1 h
      · replace h := g_neg c3 h
        refine go_iconst (v := 0) (q := 63) dX3_addMove_62 (by decide) rfl ?_
        cases h
        exact go_iret dX3_addMove_63 rfl rfl (Nat.le_refl _) (Nat.le_refl _) ⟨rfl, rfl⟩
def f_X3_addMove (s : gS) (x1 : Int32) : Option (Int32 × gS) :=
  (f_X3_stonesOf s 0 (s.1 7)).bind fun r1 =>
  (f_X3_stonesOf s 1 (s.1 7)).bind fun r3 =>
  (f_X0_openCells s (r1 ||| r3)).bind fun r5 =>
  if (r5 &&& x1) = 0 then
    f_X3_addMove_38 s x1 (r1 ||| r3) 0
  else
    f_X3_addMove_38 s x1 (r1 ||| r3) 1
set_option maxHeartbeats 4000000 in
set_option maxRecDepth 100000 in
theorem b_X3_addMove (r : Int32 × gS) : ∀ (s : gS) (x1 : Int32) , f_X3_addMove s x1 = some r → Go gTr yX3_addMove cX3_addMove 6 (some .boolean) 3 0 0 (fun r9 w9 => r9 = some (.int r.1) ∧ w9 = wW r.2) 0 0 (wW s) 0 [some (.ref 2), some (.int x1), none, none, none, none] [] := by
  intro s x1 h
  rw [f_X3_addMove] at h
  refine go_aload_n (q := 1) dX3_addMove_0 rfl rfl ?_
  refine go_iconst (v := 0) (q := 2) dX3_addMove_1 (by decide) rfl ?_
  refine go_aload_n (q := 3) dX3_addMove_2 rfl rfl ?_
  refine go_get (v := .int (s.1 7)) (q := 6) dX3_addMove_3 fX3_19 (wg_2 _) rfl rfl ?_
  obtain ⟨r1, e2, h⟩ := g_bind h
  refine go_callV0 (q := 9) (as := [.int 0, .int (s.1 7)]) (rest := []) (st2 := [.int r1]) (w2 := wW s) dX3_addMove_6 cX3_26 (t_X3_stonesOf s 0 (s.1 7) _ e2) (wg_2 _) rfl rfl rfl (Nat.le_of_ble_eq_true rfl) (by decide) ⟨Nat.le_refl _, Nat.le_refl _⟩ rfl rfl ?_
  refine go_aload_n (q := 10) dX3_addMove_9 rfl rfl ?_
  refine go_iconst (v := 1) (q := 11) dX3_addMove_10 (by decide) rfl ?_
  refine go_aload_n (q := 12) dX3_addMove_11 rfl rfl ?_
  refine go_get (v := .int (s.1 7)) (q := 15) dX3_addMove_12 fX3_19 (wg_2 _) rfl rfl ?_
  obtain ⟨r3, e4, h⟩ := g_bind h
  refine go_callV0 (q := 18) (as := [.int 1, .int (s.1 7)]) (rest := [.int r1]) (st2 := [.int r3, .int r1]) (w2 := wW s) dX3_addMove_15 cX3_26 (t_X3_stonesOf s 1 (s.1 7) _ e4) (wg_2 _) rfl rfl rfl (Nat.le_of_ble_eq_true rfl) (by decide) ⟨Nat.le_refl _, Nat.le_refl _⟩ rfl rfl ?_
  refine go_ior (q := 19) dX3_addMove_18 rfl ?_
  refine go_istore_n (ls2 := [some (.ref 2), some (.int x1), some (.int (r1 ||| r3)), none, none, none]) (q := 20) dX3_addMove_19 (by decide) rfl rfl ?_
  refine go_aload_n (q := 21) dX3_addMove_20 rfl rfl ?_
  refine go_get (v := .ref 1) (q := 24) dX3_addMove_21 fX3_7 (wg_2 _) rfl rfl ?_
  refine go_iload_n (q := 25) dX3_addMove_24 rfl rfl ?_
  obtain ⟨r5, e6, h⟩ := g_bind h
  refine go_callV0 (q := 28) (as := [.int (r1 ||| r3)]) (rest := []) (st2 := [.int r5]) (w2 := wW s) dX3_addMove_25 cX3_30 (t_X0_openCells s (r1 ||| r3) _ e6) (wg_1 _) rfl rfl rfl (Nat.le_of_ble_eq_true rfl) (by decide) ⟨Nat.le_refl _, Nat.le_refl _⟩ rfl rfl ?_
  refine go_iload_n (q := 29) dX3_addMove_28 rfl rfl ?_
  refine go_iand (q := 30) dX3_addMove_29 rfl ?_
  refine go_if_eq (tgt := 37) (q := 33) dX3_addMove_30 (by decide) rfl (fun c7 => ?_) (fun c7 => ?_)
  · replace h := g_pos c7 h
    refine go_iconst (v := 0) (q := 38) dX3_addMove_37 (by decide) rfl ?_
    refine go_ls (ls2 := [some (.ref 2), some (.int x1), some (.int (r1 ||| r3)), none, none, none]) ⟨rfl, rfl, rfl, trivial⟩ ?_
    exact b_X3_addMove_38 r s x1 (r1 ||| r3) 0 h
  · replace h := g_neg c7 h
    refine go_iconst (v := 1) (q := 34) dX3_addMove_33 (by decide) rfl ?_
    refine go_goto (tgt := 38) dX3_addMove_34 (by decide) ?_
    refine go_ls (ls2 := [some (.ref 2), some (.int x1), some (.int (r1 ||| r3)), none, none, none]) ⟨rfl, rfl, rfl, trivial⟩ ?_
    exact b_X3_addMove_38 r s x1 (r1 ||| r3) 1 h
theorem t_X3_addMove (s : gS) (x1 : Int32) (r : Int32 × gS) (h : f_X3_addMove s x1 = some r) : Cal 3 mX3_addMove [.ref 2, .int x1] (wW s) 0 0 (some (.int r.1)) (wW r.2) := Cal.of (by decide) (g_cats rfl) (Nat.le_of_ble_eq_true rfl) (b_X3_addMove r s x1 h)
def f_X3_takeBack (s : gS) : Option (Int32 × gS) :=
  if (s.1 7) = 0 then
    some (0, s)
  else
    some (1, (ss (ss s 7 ((s.1 7) - 1)) 8 0))
set_option maxHeartbeats 4000000 in
set_option maxRecDepth 100000 in
theorem b_X3_takeBack (r : Int32 × gS) : ∀ (s : gS) , f_X3_takeBack s = some r → Go gTr yX3_takeBack cX3_takeBack 1 (some .boolean) 1 0 0 (fun r9 w9 => r9 = some (.int r.1) ∧ w9 = wW r.2) 0 0 (wW s) 0 [some (.ref 2)] [] := by
  intro s h
  rw [f_X3_takeBack] at h
  refine go_aload_n (q := 1) dX3_takeBack_0 rfl rfl ?_
  refine go_get (v := .int (s.1 7)) (q := 4) dX3_takeBack_1 fX3_19 (wg_2 _) rfl rfl ?_
  refine go_if_ne (tgt := 9) (q := 7) dX3_takeBack_4 (by decide) rfl (fun c1 => ?_) (fun c1 => ?_)
  · replace h := g_neg c1 h
    refine go_aload_n (q := 10) dX3_takeBack_9 rfl rfl ?_
    refine go_dup (q := 11) dX3_takeBack_10 rfl rfl ?_
    refine go_get (v := .int (s.1 7)) (q := 14) dX3_takeBack_11 fX3_19 (wg_2 _) rfl rfl ?_
    refine go_iconst (v := 1) (q := 15) dX3_takeBack_14 (by decide) rfl ?_
    refine go_isub (q := 16) dX3_takeBack_15 rfl ?_
    refine go_put (w2 := wW (ss s 7 ((s.1 7) - 1))) (q := 19) dX3_takeBack_16 fX3_19 (wg_2 _) (Nat.le_of_ble_eq_true rfl) (fun _ => rfl) (fun _ => rfl) (wp_2_2 _ _) rfl ?_
    refine go_aload_n (q := 20) dX3_takeBack_19 rfl rfl ?_
    refine go_iconst (v := 0) (q := 21) dX3_takeBack_20 (by decide) rfl ?_
    refine go_put (w2 := wW (ss (ss s 7 ((s.1 7) - 1)) 8 0)) (q := 24) dX3_takeBack_21 fX3_23 (wg_2 _) (Nat.le_of_ble_eq_true rfl) (fun _ => rfl) (fun _ => rfl) (wp_2_3 _ _) rfl ?_
    refine go_iconst (v := 1) (q := 25) dX3_takeBack_24 (by decide) rfl ?_
    cases h
    exact go_iret dX3_takeBack_25 rfl rfl (Nat.le_refl _) (Nat.le_refl _) ⟨rfl, rfl⟩
  · replace h := g_pos c1 h
    refine go_iconst (v := 0) (q := 8) dX3_takeBack_7 (by decide) rfl ?_
    cases h
    exact go_iret dX3_takeBack_8 rfl rfl (Nat.le_refl _) (Nat.le_refl _) ⟨rfl, rfl⟩
theorem t_X3_takeBack (s : gS) (r : Int32 × gS) (h : f_X3_takeBack s = some r) : Cal 1 mX3_takeBack [.ref 2] (wW s) 0 0 (some (.int r.1)) (wW r.2) := Cal.of (by decide) (g_cats rfl) (Nat.le_of_ble_eq_true rfl) (b_X3_takeBack r s h)
def f_X3_hasEndedBehind (s : gS) (x1 : Int32) : Option Int32 :=
  if x1 = (s.1 7) then
    if (s.1 8) = 0 then
      some 0
    else
      some 1
  else
    some 0
set_option maxHeartbeats 4000000 in
set_option maxRecDepth 100000 in
theorem b_X3_hasEndedBehind (s : gS) (r : Int32) : ∀ (x1 : Int32) , f_X3_hasEndedBehind s x1 = some r → Go gTr yX3_hasEndedBehind cX3_hasEndedBehind 2 (some .boolean) 1 0 0 (fun r9 w9 => r9 = some (.int r) ∧ w9 = wW s) 0 0 (wW s) 0 [some (.ref 2), some (.int x1)] [] := by
  intro x1 h
  rw [f_X3_hasEndedBehind] at h
  refine go_iload_n (q := 1) dX3_hasEndedBehind_0 rfl rfl ?_
  refine go_aload_n (q := 2) dX3_hasEndedBehind_1 rfl rfl ?_
  refine go_get (v := .int (s.1 7)) (q := 5) dX3_hasEndedBehind_2 fX3_19 (wg_2 _) rfl rfl ?_
  refine go_icmp_ne (tgt := 19) (q := 8) dX3_hasEndedBehind_5 (by decide) rfl (fun c1 => ?_) (fun c1 => ?_)
  · replace h := g_neg c1 h
    refine go_iconst (v := 0) (q := 20) dX3_hasEndedBehind_19 (by decide) rfl ?_
    cases h
    exact go_iret dX3_hasEndedBehind_20 rfl rfl (Nat.le_refl _) (Nat.le_refl _) ⟨rfl, rfl⟩
  · replace h := g_pos c1 h
    refine go_aload_n (q := 9) dX3_hasEndedBehind_8 rfl rfl ?_
    refine go_get (v := .int (s.1 8)) (q := 12) dX3_hasEndedBehind_9 fX3_23 (wg_2 _) rfl rfl ?_
    refine go_if_eq (tgt := 19) (q := 15) dX3_hasEndedBehind_12 (by decide) rfl (fun c2 => ?_) (fun c2 => ?_)
    · replace h := g_pos c2 h
      refine go_iconst (v := 0) (q := 20) dX3_hasEndedBehind_19 (by decide) rfl ?_
      cases h
      exact go_iret dX3_hasEndedBehind_20 rfl rfl (Nat.le_refl _) (Nat.le_refl _) ⟨rfl, rfl⟩
    · replace h := g_neg c2 h
      refine go_iconst (v := 1) (q := 16) dX3_hasEndedBehind_15 (by decide) rfl ?_
      refine go_goto (tgt := 20) dX3_hasEndedBehind_16 (by decide) ?_
      cases h
      exact go_iret dX3_hasEndedBehind_20 rfl rfl (Nat.le_refl _) (Nat.le_refl _) ⟨rfl, rfl⟩
theorem t_X3_hasEndedBehind (s : gS) (x1 : Int32) (r : Int32) (h : f_X3_hasEndedBehind s x1 = some r) : Cal 1 mX3_hasEndedBehind [.ref 2, .int x1] (wW s) 0 0 (some (.int r)) (wW s) := Cal.of (by decide) (g_cats rfl) (Nat.le_of_ble_eq_true rfl) (b_X3_hasEndedBehind s r x1 h)
def f_X3_endValue (s : gS) : Option Int32 :=
  if (s.1 8) = 3 then
    some 0
  else
    if (s.1 8) = (((s.1 7) &&& 1) + 1) then
      some 1
    else
      some (-1 : Int32)
set_option maxHeartbeats 4000000 in
set_option maxRecDepth 100000 in
theorem b_X3_endValue (s : gS) (r : Int32) : f_X3_endValue s = some r → Go gTr yX3_endValue cX3_endValue 1 (some .int) 1 0 0 (fun r9 w9 => r9 = some (.int r) ∧ w9 = wW s) 0 0 (wW s) 0 [some (.ref 2)] [] := by
  intro h
  rw [f_X3_endValue] at h
  refine go_aload_n (q := 1) dX3_endValue_0 rfl rfl ?_
  refine go_get (v := .int (s.1 8)) (q := 4) dX3_endValue_1 fX3_23 (wg_2 _) rfl rfl ?_
  refine go_iconst (v := 3) (q := 5) dX3_endValue_4 (by decide) rfl ?_
  refine go_icmp_ne (tgt := 10) (q := 8) dX3_endValue_5 (by decide) rfl (fun c1 => ?_) (fun c1 => ?_)
  · replace h := g_neg c1 h
    refine go_aload_n (q := 11) dX3_endValue_10 rfl rfl ?_
    refine go_get (v := .int (s.1 8)) (q := 14) dX3_endValue_11 fX3_23 (wg_2 _) rfl rfl ?_
    refine go_aload_n (q := 15) dX3_endValue_14 rfl rfl ?_
    refine go_get (v := .int (s.1 7)) (q := 18) dX3_endValue_15 fX3_19 (wg_2 _) rfl rfl ?_
    refine go_iconst (v := 1) (q := 19) dX3_endValue_18 (by decide) rfl ?_
    refine go_iand (q := 20) dX3_endValue_19 rfl ?_
    refine go_iconst (v := 1) (q := 21) dX3_endValue_20 (by decide) rfl ?_
    refine go_iadd (q := 22) dX3_endValue_21 rfl ?_
    refine go_icmp_ne (tgt := 29) (q := 25) dX3_endValue_22 (by decide) rfl (fun c2 => ?_) (fun c2 => ?_)
    · replace h := g_neg c2 h
      refine go_iconst (v := (-1 : Int32)) (q := 30) dX3_endValue_29 (by decide) rfl ?_
      cases h
      exact go_iret dX3_endValue_30 rfl rfl (Nat.le_refl _) (Nat.le_refl _) ⟨rfl, rfl⟩
    · replace h := g_pos c2 h
      refine go_iconst (v := 1) (q := 26) dX3_endValue_25 (by decide) rfl ?_
      refine go_goto (tgt := 30) dX3_endValue_26 (by decide) ?_
      cases h
      exact go_iret dX3_endValue_30 rfl rfl (Nat.le_refl _) (Nat.le_refl _) ⟨rfl, rfl⟩
  · replace h := g_pos c1 h
    refine go_iconst (v := 0) (q := 9) dX3_endValue_8 (by decide) rfl ?_
    cases h
    exact go_iret dX3_endValue_9 rfl rfl (Nat.le_refl _) (Nat.le_refl _) ⟨rfl, rfl⟩
theorem t_X3_endValue (s : gS) (r : Int32) (h : f_X3_endValue s = some r) : Cal 1 mX3_endValue [.ref 2] (wW s) 0 0 (some (.int r)) (wW s) := Cal.of (by decide) (g_cats rfl) (Nat.le_of_ble_eq_true rfl) (b_X3_endValue s r h)
def f_X5_reaches_27 (F : gS → Int32 → Int32 → Int32 → Int32 → Option Int32) (s : gS) (x4 : Int32) : Option Int32 :=
  if 0 < x4 then
    some 0
  else
    some 1
set_option maxHeartbeats 4000000 in
set_option maxRecDepth 100000 in
theorem b_X5_reaches_27 (F : gS → Int32 → Int32 → Int32 → Int32 → Option Int32) (s : gS) (r : Int32) (dF : Nat) (hdF : 1 ≤ dF) (hF : ∀ (s : gS) (a1 : Int32) (a2 : Int32) (a3 : Int32) (a4 : Int32) (r : Int32), F s a1 a2 a3 a4 = some r → Cal dF mX5_reaches [.ref 4, .int a1, .int a2, .int a3, .int a4] (wW s) 0 0 (some (.int r)) (wW s)) : ∀ (x4 : Int32) , f_X5_reaches_27 F s x4 = some r → Go gTr yX5_reaches cX5_reaches 10 (some .boolean) (dF + 1) 0 0 (fun r9 w9 => r9 = some (.int r) ∧ w9 = wW s) 0 0 (wW s) 27 [none, none, none, none, some (.int x4), none, none, none, none, none] [] := by
  intro x4 h
  rw [f_X5_reaches_27] at h
  refine go_iload (q := 29) dX5_reaches_27 rfl rfl ?_
  refine go_if_gt (tgt := 36) (q := 32) dX5_reaches_29 (by decide) rfl (fun c1 => ?_) (fun c1 => ?_)
  · replace h := g_pos c1 h
    refine go_iconst (v := 0) (q := 37) dX5_reaches_36 (by decide) rfl ?_
    cases h
    exact go_iret dX5_reaches_37 rfl rfl (Nat.le_refl _) (Nat.le_refl _) ⟨rfl, rfl⟩
  · replace h := g_neg c1 h
    refine go_iconst (v := 1) (q := 33) dX5_reaches_32 (by decide) rfl ?_
    refine go_goto (tgt := 37) dX5_reaches_33 (by decide) ?_
    cases h
    exact go_iret dX5_reaches_37 rfl rfl (Nat.le_refl _) (Nat.le_refl _) ⟨rfl, rfl⟩
def f_X5_reaches_101 (F : gS → Int32 → Int32 → Int32 → Int32 → Option Int32) : Nat → gS → Int32 → Int32 → Int32 → Int32 → Int32 → Int32 → Option Int32
  | 0, _, _, _, _, _, _, _ => none
  | φ + 1, s, x1, x2, x3, x4, x7, x8 =>
    if 16 ≤ x8 then
      some 0
    else
      if x7 = 0 then
        some 0
      else
        (F s x2 (x1 ||| (x7 &&& (-x7))) (x3 - 1) (1 - x4)).bind fun r3 =>
        if r3 = 0 then
          some 1
        else
          f_X5_reaches_101 F φ s x1 x2 x3 x4 (x7 ^^^ (x7 &&& (-x7))) (x8 + 1)
set_option maxHeartbeats 4000000 in
set_option maxRecDepth 100000 in
theorem b_X5_reaches_101 (F : gS → Int32 → Int32 → Int32 → Int32 → Option Int32) (s : gS) (r : Int32) (dF : Nat) (hdF : 1 ≤ dF) (hF : ∀ (s : gS) (a1 : Int32) (a2 : Int32) (a3 : Int32) (a4 : Int32) (r : Int32), F s a1 a2 a3 a4 = some r → Cal dF mX5_reaches [.ref 4, .int a1, .int a2, .int a3, .int a4] (wW s) 0 0 (some (.int r)) (wW s)) : ∀ (φ : Nat) (x1 : Int32) (x2 : Int32) (x3 : Int32) (x4 : Int32) (x7 : Int32) (x8 : Int32) , f_X5_reaches_101 F φ s x1 x2 x3 x4 x7 x8 = some r → Go gTr yX5_reaches cX5_reaches 10 (some .boolean) (dF + 1) 0 0 (fun r9 w9 => r9 = some (.int r) ∧ w9 = wW s) 0 0 (wW s) 101 [some (.ref 4), some (.int x1), some (.int x2), some (.int x3), some (.int x4), none, none, some (.int x7), some (.int x8), none] [] := by
  intro φ
  induction φ with
  | zero =>
    intro x1 x2 x3 x4 x7 x8 h
    exact absurd h (by intro h0; cases h0)
  | succ φ ih =>
    intro x1 x2 x3 x4 x7 x8 h
    rw [f_X5_reaches_101] at h
    refine go_iload (q := 103) dX5_reaches_101 rfl rfl ?_
    refine go_bipush (v := 16) (q := 105) dX5_reaches_103 (by decide) rfl ?_
    refine go_icmp_ge (tgt := 155) (q := 108) dX5_reaches_105 (by decide) rfl (fun c1 => ?_) (fun c1 => ?_)
    · replace h := g_pos c1 h
      refine go_iconst (v := 0) (q := 156) dX5_reaches_155 (by decide) rfl ?_
      cases h
      exact go_iret dX5_reaches_156 rfl rfl (Nat.le_refl _) (Nat.le_refl _) ⟨rfl, rfl⟩
    · replace h := g_neg c1 h
      refine go_iload (q := 110) dX5_reaches_108 rfl rfl ?_
      refine go_if_eq (tgt := 155) (q := 113) dX5_reaches_110 (by decide) rfl (fun c2 => ?_) (fun c2 => ?_)
      · replace h := g_pos c2 h
        refine go_iconst (v := 0) (q := 156) dX5_reaches_155 (by decide) rfl ?_
        cases h
        exact go_iret dX5_reaches_156 rfl rfl (Nat.le_refl _) (Nat.le_refl _) ⟨rfl, rfl⟩
      · replace h := g_neg c2 h
        refine go_iload (q := 115) dX5_reaches_113 rfl rfl ?_
        refine go_iload (q := 117) dX5_reaches_115 rfl rfl ?_
        refine go_ineg (q := 118) dX5_reaches_117 rfl ?_
        refine go_iand (q := 119) dX5_reaches_118 rfl ?_
        refine go_istore (ls2 := [some (.ref 4), some (.int x1), some (.int x2), some (.int x3), some (.int x4), none, none, some (.int x7), some (.int x8), some (.int (x7 &&& (-x7)))]) (q := 121) dX5_reaches_119 (by decide) rfl rfl ?_
        refine go_aload_n (q := 122) dX5_reaches_121 rfl rfl ?_
        refine go_iload_n (q := 123) dX5_reaches_122 rfl rfl ?_
        refine go_iload_n (q := 124) dX5_reaches_123 rfl rfl ?_
        refine go_iload (q := 126) dX5_reaches_124 rfl rfl ?_
        refine go_ior (q := 127) dX5_reaches_126 rfl ?_
        refine go_iload_n (q := 128) dX5_reaches_127 rfl rfl ?_
        refine go_iconst (v := 1) (q := 129) dX5_reaches_128 (by decide) rfl ?_
        refine go_isub (q := 130) dX5_reaches_129 rfl ?_
        refine go_iconst (v := 1) (q := 131) dX5_reaches_130 (by decide) rfl ?_
        refine go_iload (q := 133) dX5_reaches_131 rfl rfl ?_
        refine go_isub (q := 134) dX5_reaches_133 rfl ?_
        obtain ⟨r3, e4, h⟩ := g_bind h
        refine go_callV0 (q := 137) (as := [.int x2, .int (x1 ||| (x7 &&& (-x7))), .int (x3 - 1), .int (1 - x4)]) (rest := []) (st2 := [.int r3]) (w2 := wW s) dX5_reaches_134 cX5_23 (hF s x2 (x1 ||| (x7 &&& (-x7))) (x3 - 1) (1 - x4) _ e4) (wg_4 _) rfl rfl rfl (Nat.le_of_ble_eq_true rfl) (Nat.le_refl _) ⟨Nat.le_refl _, Nat.le_refl _⟩ rfl rfl ?_
        refine go_if_ne (tgt := 142) (q := 140) dX5_reaches_137 (by decide) rfl (fun c5 => ?_) (fun c5 => ?_)
        · replace h := g_neg c5 h
          refine go_iload (q := 144) dX5_reaches_142 rfl rfl ?_
          refine go_iload (q := 146) dX5_reaches_144 rfl rfl ?_
          refine go_ixor (q := 147) dX5_reaches_146 rfl ?_
          refine go_istore (ls2 := [some (.ref 4), some (.int x1), some (.int x2), some (.int x3), some (.int x4), none, none, some (.int (x7 ^^^ (x7 &&& (-x7)))), some (.int x8), some (.int (x7 &&& (-x7)))]) (q := 149) dX5_reaches_147 (by decide) rfl rfl ?_
          refine go_iinc (v := x8 + 1) (ls2 := [some (.ref 4), some (.int x1), some (.int x2), some (.int x3), some (.int x4), none, none, some (.int (x7 ^^^ (x7 &&& (-x7)))), some (.int (x8 + 1)), some (.int (x7 &&& (-x7)))]) (q := 152) dX5_reaches_149 (by decide) rfl rfl rfl rfl ?_
          refine go_goto (tgt := 101) dX5_reaches_152 (by decide) ?_
          refine go_ls (ls2 := [some (.ref 4), some (.int x1), some (.int x2), some (.int x3), some (.int x4), none, none, some (.int (x7 ^^^ (x7 &&& (-x7)))), some (.int (x8 + 1)), none]) ⟨rfl, rfl, rfl, rfl, rfl, rfl, rfl, trivial⟩ ?_
          exact ih x1 x2 x3 x4 (x7 ^^^ (x7 &&& (-x7))) (x8 + 1) h
        · replace h := g_pos c5 h
          refine go_iconst (v := 1) (q := 141) dX5_reaches_140 (by decide) rfl ?_
          cases h
          exact go_iret dX5_reaches_141 rfl rfl (Nat.le_refl _) (Nat.le_refl _) ⟨rfl, rfl⟩
def f_X5_reaches_68 (F : gS → Int32 → Int32 → Int32 → Int32 → Option Int32) (s : gS) (x1 : Int32) (x2 : Int32) (x3 : Int32) (x4 : Int32) (x5 : Int32) (x6 : Int32) : Option Int32 :=
  if x3 = 1 then
    if 0 < x4 then
      some 0
    else
      if (x5 &&& (x6 ^^^ (-1 : Int32))) = 0 then
        some 0
      else
        some 1
  else
    f_X5_reaches_101 F gφ s x1 x2 x3 x4 (x5 &&& (x6 ^^^ (-1 : Int32))) 0
set_option maxHeartbeats 4000000 in
set_option maxRecDepth 100000 in
theorem b_X5_reaches_68 (F : gS → Int32 → Int32 → Int32 → Int32 → Option Int32) (s : gS) (r : Int32) (dF : Nat) (hdF : 1 ≤ dF) (hF : ∀ (s : gS) (a1 : Int32) (a2 : Int32) (a3 : Int32) (a4 : Int32) (r : Int32), F s a1 a2 a3 a4 = some r → Cal dF mX5_reaches [.ref 4, .int a1, .int a2, .int a3, .int a4] (wW s) 0 0 (some (.int r)) (wW s)) : ∀ (x1 : Int32) (x2 : Int32) (x3 : Int32) (x4 : Int32) (x5 : Int32) (x6 : Int32) , f_X5_reaches_68 F s x1 x2 x3 x4 x5 x6 = some r → Go gTr yX5_reaches cX5_reaches 10 (some .boolean) (dF + 1) 0 0 (fun r9 w9 => r9 = some (.int r) ∧ w9 = wW s) 0 0 (wW s) 68 [some (.ref 4), some (.int x1), some (.int x2), some (.int x3), some (.int x4), some (.int x5), some (.int x6), none, none, none] [] := by
  intro x1 x2 x3 x4 x5 x6 h
  rw [f_X5_reaches_68] at h
  refine go_iload (q := 70) dX5_reaches_68 rfl rfl ?_
  refine go_iload (q := 72) dX5_reaches_70 rfl rfl ?_
  refine go_iconst (v := (-1 : Int32)) (q := 73) dX5_reaches_72 (by decide) rfl ?_
  refine go_ixor (q := 74) dX5_reaches_73 rfl ?_
  refine go_iand (q := 75) dX5_reaches_74 rfl ?_
  refine go_istore (ls2 := [some (.ref 4), some (.int x1), some (.int x2), some (.int x3), some (.int x4), some (.int x5), some (.int x6), some (.int (x5 &&& (x6 ^^^ (-1 : Int32)))), none, none]) (q := 77) dX5_reaches_75 (by decide) rfl rfl ?_
  refine go_iload_n (q := 78) dX5_reaches_77 rfl rfl ?_
  refine go_iconst (v := 1) (q := 79) dX5_reaches_78 (by decide) rfl ?_
  refine go_icmp_ne (tgt := 98) (q := 82) dX5_reaches_79 (by decide) rfl (fun c1 => ?_) (fun c1 => ?_)
  · replace h := g_neg c1 h
    refine go_iconst (v := 0) (q := 99) dX5_reaches_98 (by decide) rfl ?_
    refine go_istore (ls2 := [some (.ref 4), some (.int x1), some (.int x2), some (.int x3), some (.int x4), some (.int x5), some (.int x6), some (.int (x5 &&& (x6 ^^^ (-1 : Int32)))), some (.int 0), none]) (q := 101) dX5_reaches_99 (by decide) rfl rfl ?_
    refine go_ls (ls2 := [some (.ref 4), some (.int x1), some (.int x2), some (.int x3), some (.int x4), none, none, some (.int (x5 &&& (x6 ^^^ (-1 : Int32)))), some (.int 0), none]) ⟨rfl, rfl, rfl, rfl, rfl, rfl, rfl, trivial⟩ ?_
    exact b_X5_reaches_101 F s r dF hdF hF gφ x1 x2 x3 x4 (x5 &&& (x6 ^^^ (-1 : Int32))) 0 h
  · replace h := g_pos c1 h
    refine go_iload (q := 84) dX5_reaches_82 rfl rfl ?_
    refine go_if_gt (tgt := 96) (q := 87) dX5_reaches_84 (by decide) rfl (fun c2 => ?_) (fun c2 => ?_)
    · replace h := g_pos c2 h
      refine go_iconst (v := 0) (q := 97) dX5_reaches_96 (by decide) rfl ?_
      cases h
      exact go_iret dX5_reaches_97 rfl rfl (Nat.le_refl _) (Nat.le_refl _) ⟨rfl, rfl⟩
    · replace h := g_neg c2 h
      refine go_iload (q := 89) dX5_reaches_87 rfl rfl ?_
      refine go_if_eq (tgt := 96) (q := 92) dX5_reaches_89 (by decide) rfl (fun c3 => ?_) (fun c3 => ?_)
      · replace h := g_pos c3 h
        refine go_iconst (v := 0) (q := 97) dX5_reaches_96 (by decide) rfl ?_
        cases h
        exact go_iret dX5_reaches_97 rfl rfl (Nat.le_refl _) (Nat.le_refl _) ⟨rfl, rfl⟩
      · replace h := g_neg c3 h
        refine go_iconst (v := 1) (q := 93) dX5_reaches_92 (by decide) rfl ?_
        refine go_goto (tgt := 97) dX5_reaches_93 (by decide) ?_
        cases h
        exact go_iret dX5_reaches_97 rfl rfl (Nat.le_refl _) (Nat.le_refl _) ⟨rfl, rfl⟩
def f_X5_reaches (F : gS → Int32 → Int32 → Int32 → Int32 → Option Int32) (s : gS) (x1 : Int32) (x2 : Int32) (x3 : Int32) (x4 : Int32) : Option Int32 :=
  (f_X0_openCells s (x1 ||| x2)).bind fun r1 =>
  if r1 = 0 then
    f_X5_reaches_27 F s x4
  else
    if x3 < 1 then
      f_X5_reaches_27 F s x4
    else
      if x3 ≤ 5 then
        (f_X0_completing s x1).bind fun r6 =>
        if (r6 &&& r1) = 0 then
          f_X5_reaches_68 F s x1 x2 x3 x4 r1 (r6 &&& r1)
        else
          if (s.1 4) = 0 then
            some 1
          else
            f_X5_reaches_68 F s x1 x2 x3 x4 r1 (r6 &&& r1)
      else
        f_X5_reaches_27 F s x4
set_option maxHeartbeats 4000000 in
set_option maxRecDepth 100000 in
theorem b_X5_reaches (F : gS → Int32 → Int32 → Int32 → Int32 → Option Int32) (s : gS) (r : Int32) (dF : Nat) (hdF : 1 ≤ dF) (hF : ∀ (s : gS) (a1 : Int32) (a2 : Int32) (a3 : Int32) (a4 : Int32) (r : Int32), F s a1 a2 a3 a4 = some r → Cal dF mX5_reaches [.ref 4, .int a1, .int a2, .int a3, .int a4] (wW s) 0 0 (some (.int r)) (wW s)) : ∀ (x1 : Int32) (x2 : Int32) (x3 : Int32) (x4 : Int32) , f_X5_reaches F s x1 x2 x3 x4 = some r → Go gTr yX5_reaches cX5_reaches 10 (some .boolean) (dF + 1) 0 0 (fun r9 w9 => r9 = some (.int r) ∧ w9 = wW s) 0 0 (wW s) 0 [some (.ref 4), some (.int x1), some (.int x2), some (.int x3), some (.int x4), none, none, none, none, none] [] := by
  intro x1 x2 x3 x4 h
  rw [f_X5_reaches] at h
  refine go_aload_n (q := 1) dX5_reaches_0 rfl rfl ?_
  refine go_get (v := .ref 1) (q := 4) dX5_reaches_1 fX5_7 (wg_4 _) rfl rfl ?_
  refine go_iload_n (q := 5) dX5_reaches_4 rfl rfl ?_
  refine go_iload_n (q := 6) dX5_reaches_5 rfl rfl ?_
  refine go_ior (q := 7) dX5_reaches_6 rfl ?_
  obtain ⟨r1, e2, h⟩ := g_bind h
  refine go_callV0 (q := 10) (as := [.int (x1 ||| x2)]) (rest := []) (st2 := [.int r1]) (w2 := wW s) dX5_reaches_7 cX5_27 (t_X0_openCells s (x1 ||| x2) _ e2) (wg_1 _) rfl rfl rfl (Nat.le_of_ble_eq_true rfl) (by omega) ⟨Nat.le_refl _, Nat.le_refl _⟩ rfl rfl ?_
  refine go_istore (ls2 := [some (.ref 4), some (.int x1), some (.int x2), some (.int x3), some (.int x4), some (.int r1), none, none, none, none]) (q := 12) dX5_reaches_10 (by decide) rfl rfl ?_
  refine go_iload (q := 14) dX5_reaches_12 rfl rfl ?_
  refine go_if_eq (tgt := 27) (q := 17) dX5_reaches_14 (by decide) rfl (fun c3 => ?_) (fun c3 => ?_)
  · replace h := g_pos c3 h
    refine go_ls (ls2 := [none, none, none, none, some (.int x4), none, none, none, none, none]) ⟨rfl, trivial⟩ ?_
    exact b_X5_reaches_27 F s r dF hdF hF x4 h
  · replace h := g_neg c3 h
    refine go_iload_n (q := 18) dX5_reaches_17 rfl rfl ?_
    refine go_iconst (v := 1) (q := 19) dX5_reaches_18 (by decide) rfl ?_
    refine go_icmp_lt (tgt := 27) (q := 22) dX5_reaches_19 (by decide) rfl (fun c4 => ?_) (fun c4 => ?_)
    · replace h := g_pos c4 h
      refine go_ls (ls2 := [none, none, none, none, some (.int x4), none, none, none, none, none]) ⟨rfl, trivial⟩ ?_
      exact b_X5_reaches_27 F s r dF hdF hF x4 h
    · replace h := g_neg c4 h
      refine go_iload_n (q := 23) dX5_reaches_22 rfl rfl ?_
      refine go_iconst (v := 5) (q := 24) dX5_reaches_23 (by decide) rfl ?_
      refine go_icmp_le (tgt := 38) (q := 27) dX5_reaches_24 (by decide) rfl (fun c5 => ?_) (fun c5 => ?_)
      · replace h := g_pos c5 h
        refine go_aload_n (q := 39) dX5_reaches_38 rfl rfl ?_
        refine go_get (v := .ref 1) (q := 42) dX5_reaches_39 fX5_7 (wg_4 _) rfl rfl ?_
        refine go_iload_n (q := 43) dX5_reaches_42 rfl rfl ?_
        obtain ⟨r6, e7, h⟩ := g_bind h
        refine go_callV0 (q := 46) (as := [.int x1]) (rest := []) (st2 := [.int r6]) (w2 := wW s) dX5_reaches_43 cX5_13 (t_X0_completing s x1 _ e7) (wg_1 _) rfl rfl rfl (Nat.le_of_ble_eq_true rfl) (by omega) ⟨Nat.le_refl _, Nat.le_refl _⟩ rfl rfl ?_
        refine go_iload (q := 48) dX5_reaches_46 rfl rfl ?_
        refine go_iand (q := 49) dX5_reaches_48 rfl ?_
        refine go_istore (ls2 := [some (.ref 4), some (.int x1), some (.int x2), some (.int x3), some (.int x4), some (.int r1), some (.int (r6 &&& r1)), none, none, none]) (q := 51) dX5_reaches_49 (by decide) rfl rfl ?_
        refine go_iload (q := 53) dX5_reaches_51 rfl rfl ?_
        refine go_if_eq (tgt := 68) (q := 56) dX5_reaches_53 (by decide) rfl (fun c8 => ?_) (fun c8 => ?_)
        · replace h := g_pos c8 h
          refine go_ls (ls2 := [some (.ref 4), some (.int x1), some (.int x2), some (.int x3), some (.int x4), some (.int r1), some (.int (r6 &&& r1)), none, none, none]) ⟨rfl, rfl, rfl, rfl, rfl, rfl, rfl, trivial⟩ ?_
          exact b_X5_reaches_68 F s r dF hdF hF x1 x2 x3 x4 r1 (r6 &&& r1) h
        · replace h := g_neg c8 h
          refine go_aload_n (q := 57) dX5_reaches_56 rfl rfl ?_
          refine go_get (v := .ref 1) (q := 60) dX5_reaches_57 fX5_7 (wg_4 _) rfl rfl ?_
          refine go_get (v := .int (s.1 4)) (q := 63) dX5_reaches_60 fX5_19 (wg_1 _) rfl rfl ?_
          refine go_if_ne (tgt := 68) (q := 66) dX5_reaches_63 (by decide) rfl (fun c9 => ?_) (fun c9 => ?_)
          · replace h := g_neg c9 h
            refine go_ls (ls2 := [some (.ref 4), some (.int x1), some (.int x2), some (.int x3), some (.int x4), some (.int r1), some (.int (r6 &&& r1)), none, none, none]) ⟨rfl, rfl, rfl, rfl, rfl, rfl, rfl, trivial⟩ ?_
            exact b_X5_reaches_68 F s r dF hdF hF x1 x2 x3 x4 r1 (r6 &&& r1) h
          · replace h := g_pos c9 h
            refine go_iconst (v := 1) (q := 67) dX5_reaches_66 (by decide) rfl ?_
            cases h
            exact go_iret dX5_reaches_67 rfl rfl (Nat.le_refl _) (Nat.le_refl _) ⟨rfl, rfl⟩
      · replace h := g_neg c5 h
        refine go_ls (ls2 := [none, none, none, none, some (.int x4), none, none, none, none, none]) ⟨rfl, trivial⟩ ?_
        exact b_X5_reaches_27 F s r dF hdF hF x4 h
def f_X5_reaches_top : Nat → gS → Int32 → Int32 → Int32 → Int32 → Option Int32
  | 0, _, _, _, _, _ => none
  | φ + 1, s, x1, x2, x3, x4 => f_X5_reaches (f_X5_reaches_top φ) s x1 x2 x3 x4
theorem t_X5_reaches : ∀ (φ : Nat) (s : gS) (x1 : Int32) (x2 : Int32) (x3 : Int32) (x4 : Int32) (r : Int32), f_X5_reaches_top φ s x1 x2 x3 x4 = some r → Cal (1 + φ) mX5_reaches [.ref 4, .int x1, .int x2, .int x3, .int x4] (wW s) 0 0 (some (.int r)) (wW s) := by
  intro φ
  induction φ with
  | zero =>
    intro s x1 x2 x3 x4 r h
    exact absurd h (by intro h0; cases h0)
  | succ φ ih =>
    intro s x1 x2 x3 x4 r h
    exact Cal.of (by decide) (g_cats rfl) (Nat.le_of_ble_eq_true rfl) (b_X5_reaches (f_X5_reaches_top φ) s r (1 + φ) (Nat.le_add_right _ _) ih x1 x2 x3 x4 h)
def f_X5_lowestReaching_90 (K16 : gS → Int32 → Int32 → Int32 → Int32 → Int32 → Int32 → Int32 → Option Int32) (s : gS) (x1 : Int32) (x2 : Int32) (x4 : Int32) (x5 : Int32) (x6 : Int32) (x7 : Int32) (x8 : Int32) (x9 : Int32) : Option Int32 :=
  K16 s x1 x2 x4 x5 x6 (x7 ^^^ x9) (x8 + 1)
set_option maxHeartbeats 4000000 in
set_option maxRecDepth 100000 in
theorem b_X5_lowestReaching_90 (K16 : gS → Int32 → Int32 → Int32 → Int32 → Int32 → Int32 → Int32 → Option Int32) (s : gS) (r : Int32) (hK16 : ∀ (x1 : Int32) (x2 : Int32) (x4 : Int32) (x5 : Int32) (x6 : Int32) (x7 : Int32) (x8 : Int32) , K16 s x1 x2 x4 x5 x6 x7 x8 = some r → Go gTr yX5_lowestReaching cX5_lowestReaching 11 (some .int) 10 0 0 (fun r9 w9 => r9 = some (.int r) ∧ w9 = wW s) 0 0 (wW s) 16 [some (.ref 4), some (.int x1), some (.int x2), none, some (.int x4), some (.int x5), some (.int x6), some (.int x7), some (.int x8), none, none] []) : ∀ (x1 : Int32) (x2 : Int32) (x4 : Int32) (x5 : Int32) (x6 : Int32) (x7 : Int32) (x8 : Int32) (x9 : Int32) , f_X5_lowestReaching_90 K16 s x1 x2 x4 x5 x6 x7 x8 x9 = some r → Go gTr yX5_lowestReaching cX5_lowestReaching 11 (some .int) 10 0 0 (fun r9 w9 => r9 = some (.int r) ∧ w9 = wW s) 0 0 (wW s) 90 [some (.ref 4), some (.int x1), some (.int x2), none, some (.int x4), some (.int x5), some (.int x6), some (.int x7), some (.int x8), some (.int x9), none] [] := by
  intro x1 x2 x4 x5 x6 x7 x8 x9 h
  rw [f_X5_lowestReaching_90] at h
  refine go_iload (q := 92) dX5_lowestReaching_90 rfl rfl ?_
  refine go_iload (q := 94) dX5_lowestReaching_92 rfl rfl ?_
  refine go_ixor (q := 95) dX5_lowestReaching_94 rfl ?_
  refine go_istore (ls2 := [some (.ref 4), some (.int x1), some (.int x2), none, some (.int x4), some (.int x5), some (.int x6), some (.int (x7 ^^^ x9)), some (.int x8), some (.int x9), none]) (q := 97) dX5_lowestReaching_95 (by decide) rfl rfl ?_
  refine go_iinc (v := x8 + 1) (ls2 := [some (.ref 4), some (.int x1), some (.int x2), none, some (.int x4), some (.int x5), some (.int x6), some (.int (x7 ^^^ x9)), some (.int (x8 + 1)), some (.int x9), none]) (q := 100) dX5_lowestReaching_97 (by decide) rfl rfl rfl rfl ?_
  refine go_goto (tgt := 16) dX5_lowestReaching_100 (by decide) ?_
  refine go_ls (ls2 := [some (.ref 4), some (.int x1), some (.int x2), none, some (.int x4), some (.int x5), some (.int x6), some (.int (x7 ^^^ x9)), some (.int (x8 + 1)), none, none]) ⟨rfl, rfl, rfl, rfl, rfl, rfl, rfl, rfl, trivial⟩ ?_
  exact hK16 x1 x2 x4 x5 x6 (x7 ^^^ x9) (x8 + 1) h
def f_X5_lowestReaching_49 (K16 : gS → Int32 → Int32 → Int32 → Int32 → Int32 → Int32 → Int32 → Option Int32) (s : gS) (x1 : Int32) (x2 : Int32) (x4 : Int32) (x5 : Int32) (x6 : Int32) (x7 : Int32) (x8 : Int32) (x9 : Int32) (t0 : Int32) : Option Int32 :=
  if t0 = 0 then
    (f_X5_reaches_top 8 s x2 (x1 ||| x9) x4 (1 - x5)).bind fun r2 =>
    if r2 = 0 then
      some x9
    else
      f_X5_lowestReaching_90 K16 s x1 x2 x4 x5 x6 x7 x8 x9
  else
    if (s.1 4) = 0 then
      some x9
    else
      f_X5_lowestReaching_90 K16 s x1 x2 x4 x5 x6 x7 x8 x9
set_option maxHeartbeats 4000000 in
set_option maxRecDepth 100000 in
theorem b_X5_lowestReaching_49 (K16 : gS → Int32 → Int32 → Int32 → Int32 → Int32 → Int32 → Int32 → Option Int32) (s : gS) (r : Int32) (hK16 : ∀ (x1 : Int32) (x2 : Int32) (x4 : Int32) (x5 : Int32) (x6 : Int32) (x7 : Int32) (x8 : Int32) , K16 s x1 x2 x4 x5 x6 x7 x8 = some r → Go gTr yX5_lowestReaching cX5_lowestReaching 11 (some .int) 10 0 0 (fun r9 w9 => r9 = some (.int r) ∧ w9 = wW s) 0 0 (wW s) 16 [some (.ref 4), some (.int x1), some (.int x2), none, some (.int x4), some (.int x5), some (.int x6), some (.int x7), some (.int x8), none, none] []) : ∀ (x1 : Int32) (x2 : Int32) (x4 : Int32) (x5 : Int32) (x6 : Int32) (x7 : Int32) (x8 : Int32) (x9 : Int32) (t0 : Int32) , f_X5_lowestReaching_49 K16 s x1 x2 x4 x5 x6 x7 x8 x9 t0 = some r → Go gTr yX5_lowestReaching cX5_lowestReaching 11 (some .int) 10 0 0 (fun r9 w9 => r9 = some (.int r) ∧ w9 = wW s) 0 0 (wW s) 49 [some (.ref 4), some (.int x1), some (.int x2), none, some (.int x4), some (.int x5), some (.int x6), some (.int x7), some (.int x8), some (.int x9), none] [.int t0] := by
  intro x1 x2 x4 x5 x6 x7 x8 x9 t0 h
  rw [f_X5_lowestReaching_49] at h
  refine go_istore (ls2 := [some (.ref 4), some (.int x1), some (.int x2), none, some (.int x4), some (.int x5), some (.int x6), some (.int x7), some (.int x8), some (.int x9), some (.int t0)]) (q := 51) dX5_lowestReaching_49 (by decide) rfl rfl ?_
  refine go_iload (q := 53) dX5_lowestReaching_51 rfl rfl ?_
  refine go_if_eq (tgt := 69) (q := 56) dX5_lowestReaching_53 (by decide) rfl (fun c1 => ?_) (fun c1 => ?_)
  · replace h := g_pos c1 h
    refine go_aload_n (q := 70) dX5_lowestReaching_69 rfl rfl ?_
    refine go_iload_n (q := 71) dX5_lowestReaching_70 rfl rfl ?_
    refine go_iload_n (q := 72) dX5_lowestReaching_71 rfl rfl ?_
    refine go_iload (q := 74) dX5_lowestReaching_72 rfl rfl ?_
    refine go_ior (q := 75) dX5_lowestReaching_74 rfl ?_
    refine go_iload (q := 77) dX5_lowestReaching_75 rfl rfl ?_
    refine go_iconst (v := 1) (q := 78) dX5_lowestReaching_77 (by decide) rfl ?_
    refine go_iload (q := 80) dX5_lowestReaching_78 rfl rfl ?_
    refine go_isub (q := 81) dX5_lowestReaching_80 rfl ?_
    obtain ⟨r2, e3, h⟩ := g_bind h
    refine go_callV0 (q := 84) (as := [.int x2, .int (x1 ||| x9), .int x4, .int (1 - x5)]) (rest := []) (st2 := [.int r2]) (w2 := wW s) dX5_lowestReaching_81 cX5_23 (t_X5_reaches 8 s x2 (x1 ||| x9) x4 (1 - x5) _ e3) (wg_4 _) rfl rfl rfl (Nat.le_of_ble_eq_true rfl) (by decide) ⟨Nat.le_refl _, Nat.le_refl _⟩ rfl rfl ?_
    refine go_if_ne (tgt := 90) (q := 87) dX5_lowestReaching_84 (by decide) rfl (fun c4 => ?_) (fun c4 => ?_)
    · replace h := g_neg c4 h
      refine go_ls (ls2 := [some (.ref 4), some (.int x1), some (.int x2), none, some (.int x4), some (.int x5), some (.int x6), some (.int x7), some (.int x8), some (.int x9), none]) ⟨rfl, rfl, rfl, rfl, rfl, rfl, rfl, rfl, rfl, trivial⟩ ?_
      exact b_X5_lowestReaching_90 K16 s r hK16 x1 x2 x4 x5 x6 x7 x8 x9 h
    · replace h := g_pos c4 h
      refine go_iload (q := 89) dX5_lowestReaching_87 rfl rfl ?_
      cases h
      exact go_iret dX5_lowestReaching_89 rfl rfl (Nat.le_refl _) (Nat.le_refl _) ⟨rfl, rfl⟩
  · replace h := g_neg c1 h
    refine go_aload_n (q := 57) dX5_lowestReaching_56 rfl rfl ?_
    refine go_get (v := .ref 1) (q := 60) dX5_lowestReaching_57 fX5_7 (wg_4 _) rfl rfl ?_
    refine go_get (v := .int (s.1 4)) (q := 63) dX5_lowestReaching_60 fX5_19 (wg_1 _) rfl rfl ?_
    refine go_if_ne (tgt := 90) (q := 66) dX5_lowestReaching_63 (by decide) rfl (fun c5 => ?_) (fun c5 => ?_)
    · replace h := g_neg c5 h
      refine go_ls (ls2 := [some (.ref 4), some (.int x1), some (.int x2), none, some (.int x4), some (.int x5), some (.int x6), some (.int x7), some (.int x8), some (.int x9), none]) ⟨rfl, rfl, rfl, rfl, rfl, rfl, rfl, rfl, rfl, trivial⟩ ?_
      exact b_X5_lowestReaching_90 K16 s r hK16 x1 x2 x4 x5 x6 x7 x8 x9 h
    · replace h := g_pos c5 h
      refine go_goto (tgt := 87) dX5_lowestReaching_66 (by decide) ?_
      refine go_iload (q := 89) dX5_lowestReaching_87 rfl rfl ?_
      cases h
      exact go_iret dX5_lowestReaching_89 rfl rfl (Nat.le_refl _) (Nat.le_refl _) ⟨rfl, rfl⟩
def f_X5_lowestReaching_16 : Nat → gS → Int32 → Int32 → Int32 → Int32 → Int32 → Int32 → Int32 → Option Int32
  | 0, _, _, _, _, _, _, _, _ => none
  | φ + 1, s, x1, x2, x4, x5, x6, x7, x8 =>
    if 16 ≤ x8 then
      some 0
    else
      if x7 = 0 then
        some 0
      else
        if (x6 &&& (x7 &&& (-x7))) = 0 then
          f_X5_lowestReaching_49 (f_X5_lowestReaching_16 φ) s x1 x2 x4 x5 x6 x7 x8 (x7 &&& (-x7)) 0
        else
          f_X5_lowestReaching_49 (f_X5_lowestReaching_16 φ) s x1 x2 x4 x5 x6 x7 x8 (x7 &&& (-x7)) 1
set_option maxHeartbeats 4000000 in
set_option maxRecDepth 100000 in
theorem b_X5_lowestReaching_16 (s : gS) (r : Int32) : ∀ (φ : Nat) (x1 : Int32) (x2 : Int32) (x4 : Int32) (x5 : Int32) (x6 : Int32) (x7 : Int32) (x8 : Int32) , f_X5_lowestReaching_16 φ s x1 x2 x4 x5 x6 x7 x8 = some r → Go gTr yX5_lowestReaching cX5_lowestReaching 11 (some .int) 10 0 0 (fun r9 w9 => r9 = some (.int r) ∧ w9 = wW s) 0 0 (wW s) 16 [some (.ref 4), some (.int x1), some (.int x2), none, some (.int x4), some (.int x5), some (.int x6), some (.int x7), some (.int x8), none, none] [] := by
  intro φ
  induction φ with
  | zero =>
    intro x1 x2 x4 x5 x6 x7 x8 h
    exact absurd h (by intro h0; cases h0)
  | succ φ ih =>
    intro x1 x2 x4 x5 x6 x7 x8 h
    rw [f_X5_lowestReaching_16] at h
    refine go_iload (q := 18) dX5_lowestReaching_16 rfl rfl ?_
    refine go_bipush (v := 16) (q := 20) dX5_lowestReaching_18 (by decide) rfl ?_
    refine go_icmp_ge (tgt := 103) (q := 23) dX5_lowestReaching_20 (by decide) rfl (fun c1 => ?_) (fun c1 => ?_)
    · replace h := g_pos c1 h
      refine go_iconst (v := 0) (q := 104) dX5_lowestReaching_103 (by decide) rfl ?_
      cases h
      exact go_iret dX5_lowestReaching_104 rfl rfl (Nat.le_refl _) (Nat.le_refl _) ⟨rfl, rfl⟩
    · replace h := g_neg c1 h
      refine go_iload (q := 25) dX5_lowestReaching_23 rfl rfl ?_
      refine go_if_eq (tgt := 103) (q := 28) dX5_lowestReaching_25 (by decide) rfl (fun c2 => ?_) (fun c2 => ?_)
      · replace h := g_pos c2 h
        refine go_iconst (v := 0) (q := 104) dX5_lowestReaching_103 (by decide) rfl ?_
        cases h
        exact go_iret dX5_lowestReaching_104 rfl rfl (Nat.le_refl _) (Nat.le_refl _) ⟨rfl, rfl⟩
      · replace h := g_neg c2 h
        refine go_iload (q := 30) dX5_lowestReaching_28 rfl rfl ?_
        refine go_iload (q := 32) dX5_lowestReaching_30 rfl rfl ?_
        refine go_ineg (q := 33) dX5_lowestReaching_32 rfl ?_
        refine go_iand (q := 34) dX5_lowestReaching_33 rfl ?_
        refine go_istore (ls2 := [some (.ref 4), some (.int x1), some (.int x2), none, some (.int x4), some (.int x5), some (.int x6), some (.int x7), some (.int x8), some (.int (x7 &&& (-x7))), none]) (q := 36) dX5_lowestReaching_34 (by decide) rfl rfl ?_
        refine go_iload (q := 38) dX5_lowestReaching_36 rfl rfl ?_
        refine go_iload (q := 40) dX5_lowestReaching_38 rfl rfl ?_
        refine go_iand (q := 41) dX5_lowestReaching_40 rfl ?_
        refine go_if_eq (tgt := 48) (q := 44) dX5_lowestReaching_41 (by decide) rfl (fun c3 => ?_) (fun c3 => ?_)
        · replace h := g_pos c3 h
          refine go_iconst (v := 0) (q := 49) dX5_lowestReaching_48 (by decide) rfl ?_
          refine go_ls (ls2 := [some (.ref 4), some (.int x1), some (.int x2), none, some (.int x4), some (.int x5), some (.int x6), some (.int x7), some (.int x8), some (.int (x7 &&& (-x7))), none]) ⟨rfl, rfl, rfl, rfl, rfl, rfl, rfl, rfl, rfl, trivial⟩ ?_
          exact b_X5_lowestReaching_49 (f_X5_lowestReaching_16 φ) s r (fun x1 x2 x4 x5 x6 x7 x8 h => ih x1 x2 x4 x5 x6 x7 x8 h) x1 x2 x4 x5 x6 x7 x8 (x7 &&& (-x7)) 0 h
        · replace h := g_neg c3 h
          refine go_iconst (v := 1) (q := 45) dX5_lowestReaching_44 (by decide) rfl ?_
          refine go_goto (tgt := 49) dX5_lowestReaching_45 (by decide) ?_
          refine go_ls (ls2 := [some (.ref 4), some (.int x1), some (.int x2), none, some (.int x4), some (.int x5), some (.int x6), some (.int x7), some (.int x8), some (.int (x7 &&& (-x7))), none]) ⟨rfl, rfl, rfl, rfl, rfl, rfl, rfl, rfl, rfl, trivial⟩ ?_
          exact b_X5_lowestReaching_49 (f_X5_lowestReaching_16 φ) s r (fun x1 x2 x4 x5 x6 x7 x8 h => ih x1 x2 x4 x5 x6 x7 x8 h) x1 x2 x4 x5 x6 x7 x8 (x7 &&& (-x7)) 1 h
def f_X5_lowestReaching (s : gS) (x1 : Int32) (x2 : Int32) (x3 : Int32) (x4 : Int32) (x5 : Int32) : Option Int32 :=
  (f_X0_completing s x1).bind fun r1 =>
  f_X5_lowestReaching_16 gφ s x1 x2 x4 x5 r1 x3 0
set_option maxHeartbeats 4000000 in
set_option maxRecDepth 100000 in
theorem b_X5_lowestReaching (s : gS) (r : Int32) : ∀ (x1 : Int32) (x2 : Int32) (x3 : Int32) (x4 : Int32) (x5 : Int32) , f_X5_lowestReaching s x1 x2 x3 x4 x5 = some r → Go gTr yX5_lowestReaching cX5_lowestReaching 11 (some .int) 10 0 0 (fun r9 w9 => r9 = some (.int r) ∧ w9 = wW s) 0 0 (wW s) 0 [some (.ref 4), some (.int x1), some (.int x2), some (.int x3), some (.int x4), some (.int x5), none, none, none, none, none] [] := by
  intro x1 x2 x3 x4 x5 h
  rw [f_X5_lowestReaching] at h
  refine go_aload_n (q := 1) dX5_lowestReaching_0 rfl rfl ?_
  refine go_get (v := .ref 1) (q := 4) dX5_lowestReaching_1 fX5_7 (wg_4 _) rfl rfl ?_
  refine go_iload_n (q := 5) dX5_lowestReaching_4 rfl rfl ?_
  obtain ⟨r1, e2, h⟩ := g_bind h
  refine go_callV0 (q := 8) (as := [.int x1]) (rest := []) (st2 := [.int r1]) (w2 := wW s) dX5_lowestReaching_5 cX5_13 (t_X0_completing s x1 _ e2) (wg_1 _) rfl rfl rfl (Nat.le_of_ble_eq_true rfl) (by decide) ⟨Nat.le_refl _, Nat.le_refl _⟩ rfl rfl ?_
  refine go_istore (ls2 := [some (.ref 4), some (.int x1), some (.int x2), some (.int x3), some (.int x4), some (.int x5), some (.int r1), none, none, none, none]) (q := 10) dX5_lowestReaching_8 (by decide) rfl rfl ?_
  refine go_iload_n (q := 11) dX5_lowestReaching_10 rfl rfl ?_
  refine go_istore (ls2 := [some (.ref 4), some (.int x1), some (.int x2), some (.int x3), some (.int x4), some (.int x5), some (.int r1), some (.int x3), none, none, none]) (q := 13) dX5_lowestReaching_11 (by decide) rfl rfl ?_
  refine go_iconst (v := 0) (q := 14) dX5_lowestReaching_13 (by decide) rfl ?_
  refine go_istore (ls2 := [some (.ref 4), some (.int x1), some (.int x2), some (.int x3), some (.int x4), some (.int x5), some (.int r1), some (.int x3), some (.int 0), none, none]) (q := 16) dX5_lowestReaching_14 (by decide) rfl rfl ?_
  refine go_ls (ls2 := [some (.ref 4), some (.int x1), some (.int x2), none, some (.int x4), some (.int x5), some (.int r1), some (.int x3), some (.int 0), none, none]) ⟨rfl, rfl, rfl, rfl, rfl, rfl, rfl, rfl, trivial⟩ ?_
  exact b_X5_lowestReaching_16 s r gφ x1 x2 x4 x5 r1 x3 0 h
theorem t_X5_lowestReaching (s : gS) (x1 : Int32) (x2 : Int32) (x3 : Int32) (x4 : Int32) (x5 : Int32) (r : Int32) (h : f_X5_lowestReaching s x1 x2 x3 x4 x5 = some r) : Cal 10 mX5_lowestReaching [.ref 4, .int x1, .int x2, .int x3, .int x4, .int x5] (wW s) 0 0 (some (.int r)) (wW s) := Cal.of (by decide) (g_cats rfl) (Nat.le_of_ble_eq_true rfl) (b_X5_lowestReaching s r x1 x2 x3 x4 x5 h)
