def f_X6_hasRoomForTwenty (s : gS) : Option Int32 :=
  if 120 < ((s.1 12) + 20) then
    some 0
  else
    some 1
set_option maxHeartbeats 4000000 in
set_option maxRecDepth 100000 in
theorem b_X6_hasRoomForTwenty (s : gS) (r : Int32) : f_X6_hasRoomForTwenty s = some r → Go gTr yX6_hasRoomForTwenty cX6_hasRoomForTwenty 1 (some .boolean) 1 0 0 (fun r9 w9 => r9 = some (.int r) ∧ w9 = wW s) 0 0 (wW s) 0 [some (.ref 19)] [] := by
  intro h
  rw [f_X6_hasRoomForTwenty] at h
  refine go_aload_n (q := 1) dX6_hasRoomForTwenty_0 rfl rfl ?_
  refine go_get (v := .int (s.1 12)) (q := 4) dX6_hasRoomForTwenty_1 fX6_15 (wg_19 _) rfl rfl ?_
  refine go_bipush (v := 20) (q := 6) dX6_hasRoomForTwenty_4 (by decide) rfl ?_
  refine go_iadd (q := 7) dX6_hasRoomForTwenty_6 rfl ?_
  refine go_bipush (v := 120) (q := 9) dX6_hasRoomForTwenty_7 (by decide) rfl ?_
  refine go_icmp_gt (tgt := 16) (q := 12) dX6_hasRoomForTwenty_9 (by decide) rfl (fun c1 => ?_) (fun c1 => ?_)
  · replace h := g_pos c1 h
    refine go_iconst (v := 0) (q := 17) dX6_hasRoomForTwenty_16 (by decide) rfl ?_
    cases h
    exact go_iret dX6_hasRoomForTwenty_17 rfl rfl (Nat.le_refl _) (Nat.le_refl _) ⟨rfl, rfl⟩
  · replace h := g_neg c1 h
    refine go_iconst (v := 1) (q := 13) dX6_hasRoomForTwenty_12 (by decide) rfl ?_
    refine go_goto (tgt := 17) dX6_hasRoomForTwenty_13 (by decide) ?_
    cases h
    exact go_iret dX6_hasRoomForTwenty_17 rfl rfl (Nat.le_refl _) (Nat.le_refl _) ⟨rfl, rfl⟩
theorem t_X6_hasRoomForTwenty (s : gS) (r : Int32) (h : f_X6_hasRoomForTwenty s = some r) : Cal 1 mX6_hasRoomForTwenty [.ref 19] (wW s) 0 0 (some (.int r)) (wW s) := Cal.of (by decide) (g_cats rfl) (Nat.le_of_ble_eq_true rfl) (b_X6_hasRoomForTwenty s r h)
def f_X6_addFour_45 (K3 : gS → Int32 → Int32 → Option gS) (s : gS) (x1 : Int32) (x2 : Int32) : Option gS :=
  K3 s x1 (x2 + (-8 : Int32))
set_option maxHeartbeats 4000000 in
set_option maxRecDepth 100000 in
theorem b_X6_addFour_45 (K3 : gS → Int32 → Int32 → Option gS) (r : gS) (hK3 : ∀ (s : gS) (x1 : Int32) (x2 : Int32) , K3 s x1 x2 = some r → Go gTr yX6_addFour cX6_addFour 3 none 1 0 0 (fun r9 w9 => r9 = none ∧ w9 = wW r) 0 0 (wW s) 3 [some (.ref 19), some (.int x1), some (.int x2)] []) : ∀ (s : gS) (x1 : Int32) (x2 : Int32) , f_X6_addFour_45 K3 s x1 x2 = some r → Go gTr yX6_addFour cX6_addFour 3 none 1 0 0 (fun r9 w9 => r9 = none ∧ w9 = wW r) 0 0 (wW s) 45 [some (.ref 19), some (.int x1), some (.int x2)] [] := by
  intro s x1 x2 h
  rw [f_X6_addFour_45] at h
  refine go_iinc (v := x2 + (-8 : Int32)) (ls2 := [some (.ref 19), some (.int x1), some (.int (x2 + (-8 : Int32)))]) (q := 48) dX6_addFour_45 (by decide) rfl rfl rfl rfl ?_
  refine go_goto (tgt := 3) dX6_addFour_48 (by decide) ?_
  refine go_ls (ls2 := [some (.ref 19), some (.int x1), some (.int (x2 + (-8 : Int32)))]) ⟨rfl, rfl, rfl, trivial⟩ ?_
  exact hK3 s x1 (x2 + (-8 : Int32)) h
def f_X6_addFour_3 : Nat → gS → Int32 → Int32 → Option gS
  | 0, _, _, _ => none
  | φ + 1, s, x1, x2 =>
    if x2 < 0 then
      some s
    else
      if 120 ≤ (s.1 12) then
        f_X6_addFour_45 (f_X6_addFour_3 φ) s x1 x2
      else
        if inB (s.1 12) 120 = true then
          f_X6_addFour_45 (f_X6_addFour_3 φ) (ss (sa s 11 ((s.1 12).toNatClampNeg) ((((x1 : Int32).toUInt32 >>> ((x2 : Int32).toUInt32 &&& Int32.toUInt32 31)).toInt32) &&& 255)) 12 ((s.1 12) + 1)) x1 x2
        else none
set_option maxHeartbeats 4000000 in
set_option maxRecDepth 100000 in
theorem b_X6_addFour_3 (r : gS) : ∀ (φ : Nat) (s : gS) (x1 : Int32) (x2 : Int32) , f_X6_addFour_3 φ s x1 x2 = some r → Go gTr yX6_addFour cX6_addFour 3 none 1 0 0 (fun r9 w9 => r9 = none ∧ w9 = wW r) 0 0 (wW s) 3 [some (.ref 19), some (.int x1), some (.int x2)] [] := by
  intro φ
  induction φ with
  | zero =>
    intro s x1 x2 h
    exact absurd h (by intro h0; cases h0)
  | succ φ ih =>
    intro s x1 x2 h
    rw [f_X6_addFour_3] at h
    refine go_iload_n (q := 4) dX6_addFour_3 rfl rfl ?_
    refine go_if_lt (tgt := 51) (q := 7) dX6_addFour_4 (by decide) rfl (fun c1 => ?_) (fun c1 => ?_)
    · replace h := g_pos c1 h
      cases h
      exact go_ret dX6_addFour_51 rfl (Nat.le_refl _) (Nat.le_refl _) ⟨rfl, rfl⟩
    · replace h := g_neg c1 h
      refine go_aload_n (q := 8) dX6_addFour_7 rfl rfl ?_
      refine go_get (v := .int (s.1 12)) (q := 11) dX6_addFour_8 fX6_15 (wg_19 _) rfl rfl ?_
      refine go_aload_n (q := 12) dX6_addFour_11 rfl rfl ?_
      refine go_get (v := .ref 20) (q := 15) dX6_addFour_12 fX6_11 (wg_19 _) rfl rfl ?_
      refine go_alen (v := 120) (q := 16) dX6_addFour_15 (by decide) (wg_20 _) rfl rfl ?_
      refine go_icmp_ge (tgt := 45) (q := 19) dX6_addFour_16 (by decide) rfl (fun c2 => ?_) (fun c2 => ?_)
      · replace h := g_pos c2 h
        refine go_ls (ls2 := [some (.ref 19), some (.int x1), some (.int x2)]) ⟨rfl, rfl, rfl, trivial⟩ ?_
        exact b_X6_addFour_45 (f_X6_addFour_3 φ) r (fun s x1 x2 h => ih s x1 x2 h) s x1 x2 h
      · replace h := g_neg c2 h
        refine go_aload_n (q := 20) dX6_addFour_19 rfl rfl ?_
        refine go_get (v := .ref 20) (q := 23) dX6_addFour_20 fX6_11 (wg_19 _) rfl rfl ?_
        refine go_aload_n (q := 24) dX6_addFour_23 rfl rfl ?_
        refine go_get (v := .int (s.1 12)) (q := 27) dX6_addFour_24 fX6_15 (wg_19 _) rfl rfl ?_
        refine go_iload_n (q := 28) dX6_addFour_27 rfl rfl ?_
        refine go_iload_n (q := 29) dX6_addFour_28 rfl rfl ?_
        refine go_iushr (q := 30) dX6_addFour_29 rfl ?_
        refine go_sipush (v := 255) (q := 33) dX6_addFour_30 (by decide) rfl ?_
        refine go_iand (q := 34) dX6_addFour_33 rfl ?_
        obtain ⟨g3, h⟩ := g_guard h
        refine go_iast (w2 := wW (sa s 11 ((s.1 12).toNatClampNeg) ((((x1 : Int32).toUInt32 >>> ((x2 : Int32).toUInt32 &&& Int32.toUInt32 31)).toInt32) &&& 255))) (q := 35) dX6_addFour_34 (wg_20 _) (inB_in g3) (wa_20 _ _ _) rfl ?_
        refine go_aload_n (q := 36) dX6_addFour_35 rfl rfl ?_
        refine go_dup (q := 37) dX6_addFour_36 rfl rfl ?_
        refine go_get (v := .int (s.1 12)) (q := 40) dX6_addFour_37 fX6_15 (wg_19 _) rfl rfl ?_
        refine go_iconst (v := 1) (q := 41) dX6_addFour_40 (by decide) rfl ?_
        refine go_iadd (q := 42) dX6_addFour_41 rfl ?_
        refine go_put (w2 := wW (ss (sa s 11 ((s.1 12).toNatClampNeg) ((((x1 : Int32).toUInt32 >>> ((x2 : Int32).toUInt32 &&& Int32.toUInt32 31)).toInt32) &&& 255)) 12 ((s.1 12) + 1))) (q := 45) dX6_addFour_42 fX6_15 (wg_19 _) (Nat.le_of_ble_eq_true rfl) (fun _ => rfl) (fun _ => rfl) (wp_19_1 _ _) rfl ?_
        refine go_ls (ls2 := [some (.ref 19), some (.int x1), some (.int x2)]) ⟨rfl, rfl, rfl, trivial⟩ ?_
        exact b_X6_addFour_45 (f_X6_addFour_3 φ) r (fun s x1 x2 h => ih s x1 x2 h) (ss (sa s 11 ((s.1 12).toNatClampNeg) ((((x1 : Int32).toUInt32 >>> ((x2 : Int32).toUInt32 &&& Int32.toUInt32 31)).toInt32) &&& 255)) 12 ((s.1 12) + 1)) x1 x2 h
def f_X6_addFour (s : gS) (x1 : Int32) : Option gS :=
  f_X6_addFour_3 gφ s x1 24
set_option maxHeartbeats 4000000 in
set_option maxRecDepth 100000 in
theorem b_X6_addFour (r : gS) : ∀ (s : gS) (x1 : Int32) , f_X6_addFour s x1 = some r → Go gTr yX6_addFour cX6_addFour 3 none 1 0 0 (fun r9 w9 => r9 = none ∧ w9 = wW r) 0 0 (wW s) 0 [some (.ref 19), some (.int x1), none] [] := by
  intro s x1 h
  rw [f_X6_addFour] at h
  refine go_bipush (v := 24) (q := 2) dX6_addFour_0 (by decide) rfl ?_
  refine go_istore_n (ls2 := [some (.ref 19), some (.int x1), some (.int 24)]) (q := 3) dX6_addFour_2 (by decide) rfl rfl ?_
  refine go_ls (ls2 := [some (.ref 19), some (.int x1), some (.int 24)]) ⟨rfl, rfl, rfl, trivial⟩ ?_
  exact b_X6_addFour_3 r gφ s x1 24 h
theorem t_X6_addFour (s : gS) (x1 : Int32) (r : gS) (h : f_X6_addFour s x1 = some r) : Cal 1 mX6_addFour [.ref 19, .int x1] (wW s) 0 0 none (wW r) := Cal.of (by decide) (g_cats rfl) (Nat.le_of_ble_eq_true rfl) (b_X6_addFour r s x1 h)
def f_X6_finish (s : gS) (x1 : Int32) : Option gS :=
  some (ss (ss s 13 x1) 12 0)
set_option maxHeartbeats 4000000 in
set_option maxRecDepth 100000 in
theorem b_X6_finish (r : gS) : ∀ (s : gS) (x1 : Int32) , f_X6_finish s x1 = some r → Go gTr yX6_finish cX6_finish 2 none 1 0 0 (fun r9 w9 => r9 = none ∧ w9 = wW r) 0 0 (wW s) 0 [some (.ref 19), some (.int x1)] [] := by
  intro s x1 h
  rw [f_X6_finish] at h
  refine go_aload_n (q := 1) dX6_finish_0 rfl rfl ?_
  refine go_iload_n (q := 2) dX6_finish_1 rfl rfl ?_
  refine go_put (w2 := wW (ss s 13 x1)) (q := 5) dX6_finish_2 fX6_19 (wg_19 _) (Nat.le_of_ble_eq_true rfl) (fun _ => rfl) (fun _ => rfl) (wp_19_2 _ _) rfl ?_
  refine go_aload_n (q := 6) dX6_finish_5 rfl rfl ?_
  refine go_iconst (v := 0) (q := 7) dX6_finish_6 (by decide) rfl ?_
  refine go_put (w2 := wW (ss (ss s 13 x1) 12 0)) (q := 10) dX6_finish_7 fX6_15 (wg_19 _) (Nat.le_of_ble_eq_true rfl) (fun _ => rfl) (fun _ => rfl) (wp_19_1 _ _) rfl ?_
  cases h
  exact go_ret dX6_finish_10 rfl (Nat.le_refl _) (Nat.le_refl _) ⟨rfl, rfl⟩
theorem t_X6_finish (s : gS) (x1 : Int32) (r : gS) (h : f_X6_finish s x1 = some r) : Cal 1 mX6_finish [.ref 19, .int x1] (wW s) 0 0 none (wW r) := Cal.of (by decide) (g_cats rfl) (Nat.le_of_ble_eq_true rfl) (b_X6_finish r s x1 h)
def f_X6_byteAt (s : gS) (x1 : Int32) (x2 : Int32) : Option Int32 :=
  if x1 < 0 then
    some (-1 : Int32)
  else
    if x2 ≤ x1 then
      some (-1 : Int32)
    else
      if 120 ≤ x1 then
        some (-1 : Int32)
      else
        if inB x1 120 = true then
          some (s.2 11 x1.toNatClampNeg)
        else none
set_option maxHeartbeats 4000000 in
set_option maxRecDepth 100000 in
theorem b_X6_byteAt (s : gS) (r : Int32) : ∀ (x1 : Int32) (x2 : Int32) , f_X6_byteAt s x1 x2 = some r → Go gTr yX6_byteAt cX6_byteAt 3 (some .int) 1 0 0 (fun r9 w9 => r9 = some (.int r) ∧ w9 = wW s) 0 0 (wW s) 0 [some (.ref 19), some (.int x1), some (.int x2)] [] := by
  intro x1 x2 h
  rw [f_X6_byteAt] at h
  refine go_iload_n (q := 1) dX6_byteAt_0 rfl rfl ?_
  refine go_if_lt (tgt := 27) (q := 4) dX6_byteAt_1 (by decide) rfl (fun c1 => ?_) (fun c1 => ?_)
  · replace h := g_pos c1 h
    refine go_iconst (v := (-1 : Int32)) (q := 28) dX6_byteAt_27 (by decide) rfl ?_
    cases h
    exact go_iret dX6_byteAt_28 rfl rfl (Nat.le_refl _) (Nat.le_refl _) ⟨rfl, rfl⟩
  · replace h := g_neg c1 h
    refine go_iload_n (q := 5) dX6_byteAt_4 rfl rfl ?_
    refine go_iload_n (q := 6) dX6_byteAt_5 rfl rfl ?_
    refine go_icmp_ge (tgt := 27) (q := 9) dX6_byteAt_6 (by decide) rfl (fun c2 => ?_) (fun c2 => ?_)
    · replace h := g_pos c2 h
      refine go_iconst (v := (-1 : Int32)) (q := 28) dX6_byteAt_27 (by decide) rfl ?_
      cases h
      exact go_iret dX6_byteAt_28 rfl rfl (Nat.le_refl _) (Nat.le_refl _) ⟨rfl, rfl⟩
    · replace h := g_neg c2 h
      refine go_iload_n (q := 10) dX6_byteAt_9 rfl rfl ?_
      refine go_aload_n (q := 11) dX6_byteAt_10 rfl rfl ?_
      refine go_get (v := .ref 20) (q := 14) dX6_byteAt_11 fX6_11 (wg_19 _) rfl rfl ?_
      refine go_alen (v := 120) (q := 15) dX6_byteAt_14 (by decide) (wg_20 _) rfl rfl ?_
      refine go_icmp_ge (tgt := 27) (q := 18) dX6_byteAt_15 (by decide) rfl (fun c3 => ?_) (fun c3 => ?_)
      · replace h := g_pos c3 h
        refine go_iconst (v := (-1 : Int32)) (q := 28) dX6_byteAt_27 (by decide) rfl ?_
        cases h
        exact go_iret dX6_byteAt_28 rfl rfl (Nat.le_refl _) (Nat.le_refl _) ⟨rfl, rfl⟩
      · replace h := g_neg c3 h
        refine go_aload_n (q := 19) dX6_byteAt_18 rfl rfl ?_
        refine go_get (v := .ref 20) (q := 22) dX6_byteAt_19 fX6_11 (wg_19 _) rfl rfl ?_
        refine go_iload_n (q := 23) dX6_byteAt_22 rfl rfl ?_
        obtain ⟨g4, h⟩ := g_guard h
        refine go_iald (f := s.2 11) (q := 24) dX6_byteAt_23 (wg_20 _) (inB_in g4) rfl ?_
        refine go_goto (tgt := 28) dX6_byteAt_24 (by decide) ?_
        cases h
        exact go_iret dX6_byteAt_28 rfl rfl (Nat.le_refl _) (Nat.le_refl _) ⟨rfl, rfl⟩
theorem t_X6_byteAt (s : gS) (x1 : Int32) (x2 : Int32) (r : Int32) (h : f_X6_byteAt s x1 x2 = some r) : Cal 1 mX6_byteAt [.ref 19, .int x1, .int x2] (wW s) 0 0 (some (.int r)) (wW s) := Cal.of (by decide) (g_cats rfl) (Nat.le_of_ble_eq_true rfl) (b_X6_byteAt s r x1 x2 h)
def f_X6_behindNumber_67 (s : gS) (x1 : Int32) (x4 : Int32) (t0 : Int32) : Option Int32 :=
  if t0 = 0 then
    some x1
  else
    some (x4 + 2)
set_option maxHeartbeats 4000000 in
set_option maxRecDepth 100000 in
theorem b_X6_behindNumber_67 (s : gS) (r : Int32) : ∀ (x1 : Int32) (x4 : Int32) (t0 : Int32) , f_X6_behindNumber_67 s x1 x4 t0 = some r → Go gTr yX6_behindNumber cX6_behindNumber 6 (some .int) 2 0 0 (fun r9 w9 => r9 = some (.int r) ∧ w9 = wW s) 0 0 (wW s) 67 [none, some (.int x1), none, none, some (.int x4), none] [.int t0] := by
  intro x1 x4 t0 h
  rw [f_X6_behindNumber_67] at h
  refine go_istore (ls2 := [none, some (.int x1), none, none, some (.int x4), some (.int t0)]) (q := 69) dX6_behindNumber_67 (by decide) rfl rfl ?_
  refine go_iload (q := 71) dX6_behindNumber_69 rfl rfl ?_
  refine go_if_eq (tgt := 81) (q := 74) dX6_behindNumber_71 (by decide) rfl (fun c1 => ?_) (fun c1 => ?_)
  · replace h := g_pos c1 h
    refine go_iload_n (q := 82) dX6_behindNumber_81 rfl rfl ?_
    cases h
    exact go_iret dX6_behindNumber_82 rfl rfl (Nat.le_refl _) (Nat.le_refl _) ⟨rfl, rfl⟩
  · replace h := g_neg c1 h
    refine go_iload (q := 76) dX6_behindNumber_74 rfl rfl ?_
    refine go_iconst (v := 2) (q := 77) dX6_behindNumber_76 (by decide) rfl ?_
    refine go_iadd (q := 78) dX6_behindNumber_77 rfl ?_
    refine go_goto (tgt := 82) dX6_behindNumber_78 (by decide) ?_
    cases h
    exact go_iret dX6_behindNumber_82 rfl rfl (Nat.le_refl _) (Nat.le_refl _) ⟨rfl, rfl⟩
def f_X6_behindNumber_66 (s : gS) (x1 : Int32) (x4 : Int32) : Option Int32 :=
  f_X6_behindNumber_67 s x1 x4 0
set_option maxHeartbeats 4000000 in
set_option maxRecDepth 100000 in
theorem b_X6_behindNumber_66 (s : gS) (r : Int32) : ∀ (x1 : Int32) (x4 : Int32) , f_X6_behindNumber_66 s x1 x4 = some r → Go gTr yX6_behindNumber cX6_behindNumber 6 (some .int) 2 0 0 (fun r9 w9 => r9 = some (.int r) ∧ w9 = wW s) 0 0 (wW s) 66 [none, some (.int x1), none, none, some (.int x4), none] [] := by
  intro x1 x4 h
  rw [f_X6_behindNumber_66] at h
  refine go_iconst (v := 0) (q := 67) dX6_behindNumber_66 (by decide) rfl ?_
  refine go_ls (ls2 := [none, some (.int x1), none, none, some (.int x4), none]) ⟨rfl, rfl, trivial⟩ ?_
  exact b_X6_behindNumber_67 s r x1 x4 0 h
def f_X6_behindNumber_31 (s : gS) (x1 : Int32) (x2 : Int32) (x3 : Int32) (x4 : Int32) : Option Int32 :=
  (f_X6_byteAt s x4 x2).bind fun r1 =>
  if r1 = (48 + (x3 - x3 / 10 * 10)) then
    (f_X6_byteAt s (x4 + 1) x2).bind fun r4 =>
    if r4 = 46 then
      f_X6_behindNumber_67 s x1 x4 1
    else
      f_X6_behindNumber_66 s x1 x4
  else
    f_X6_behindNumber_66 s x1 x4
set_option maxHeartbeats 4000000 in
set_option maxRecDepth 100000 in
theorem b_X6_behindNumber_31 (s : gS) (r : Int32) : ∀ (x1 : Int32) (x2 : Int32) (x3 : Int32) (x4 : Int32) , f_X6_behindNumber_31 s x1 x2 x3 x4 = some r → Go gTr yX6_behindNumber cX6_behindNumber 6 (some .int) 2 0 0 (fun r9 w9 => r9 = some (.int r) ∧ w9 = wW s) 0 0 (wW s) 31 [some (.ref 19), some (.int x1), some (.int x2), some (.int x3), some (.int x4), none] [] := by
  intro x1 x2 x3 x4 h
  rw [f_X6_behindNumber_31] at h
  refine go_aload_n (q := 32) dX6_behindNumber_31 rfl rfl ?_
  refine go_iload (q := 34) dX6_behindNumber_32 rfl rfl ?_
  refine go_iload_n (q := 35) dX6_behindNumber_34 rfl rfl ?_
  obtain ⟨r1, e2, h⟩ := g_bind h
  refine go_callV0 (q := 38) (as := [.int x4, .int x2]) (rest := []) (st2 := [.int r1]) (w2 := wW s) dX6_behindNumber_35 cX6_30 (t_X6_byteAt s x4 x2 _ e2) (wg_19 _) rfl rfl rfl (Nat.le_of_ble_eq_true rfl) (by decide) ⟨Nat.le_refl _, Nat.le_refl _⟩ rfl rfl ?_
  refine go_bipush (v := 48) (q := 40) dX6_behindNumber_38 (by decide) rfl ?_
  refine go_iload_n (q := 41) dX6_behindNumber_40 rfl rfl ?_
  refine go_bipush (v := 10) (q := 43) dX6_behindNumber_41 (by decide) rfl ?_
  refine go_irem (q := 44) dX6_behindNumber_43 (by decide) rfl ?_
  refine go_iadd (q := 45) dX6_behindNumber_44 rfl ?_
  refine go_icmp_ne (tgt := 66) (q := 48) dX6_behindNumber_45 (by decide) rfl (fun c3 => ?_) (fun c3 => ?_)
  · replace h := g_neg c3 h
    refine go_ls (ls2 := [none, some (.int x1), none, none, some (.int x4), none]) ⟨rfl, rfl, trivial⟩ ?_
    exact b_X6_behindNumber_66 s r x1 x4 h
  · replace h := g_pos c3 h
    refine go_aload_n (q := 49) dX6_behindNumber_48 rfl rfl ?_
    refine go_iload (q := 51) dX6_behindNumber_49 rfl rfl ?_
    refine go_iconst (v := 1) (q := 52) dX6_behindNumber_51 (by decide) rfl ?_
    refine go_iadd (q := 53) dX6_behindNumber_52 rfl ?_
    refine go_iload_n (q := 54) dX6_behindNumber_53 rfl rfl ?_
    obtain ⟨r4, e5, h⟩ := g_bind h
    refine go_callV0 (q := 57) (as := [.int (x4 + 1), .int x2]) (rest := []) (st2 := [.int r4]) (w2 := wW s) dX6_behindNumber_54 cX6_30 (t_X6_byteAt s (x4 + 1) x2 _ e5) (wg_19 _) rfl rfl rfl (Nat.le_of_ble_eq_true rfl) (by decide) ⟨Nat.le_refl _, Nat.le_refl _⟩ rfl rfl ?_
    refine go_bipush (v := 46) (q := 59) dX6_behindNumber_57 (by decide) rfl ?_
    refine go_icmp_ne (tgt := 66) (q := 62) dX6_behindNumber_59 (by decide) rfl (fun c6 => ?_) (fun c6 => ?_)
    · replace h := g_neg c6 h
      refine go_ls (ls2 := [none, some (.int x1), none, none, some (.int x4), none]) ⟨rfl, rfl, trivial⟩ ?_
      exact b_X6_behindNumber_66 s r x1 x4 h
    · replace h := g_pos c6 h
      refine go_iconst (v := 1) (q := 63) dX6_behindNumber_62 (by decide) rfl ?_
      refine go_goto (tgt := 67) dX6_behindNumber_63 (by decide) ?_
      refine go_ls (ls2 := [none, some (.int x1), none, none, some (.int x4), none]) ⟨rfl, rfl, trivial⟩ ?_
      exact b_X6_behindNumber_67 s r x1 x4 1 h
def f_X6_behindNumber (s : gS) (x1 : Int32) (x2 : Int32) (x3 : Int32) : Option Int32 :=
  if x3 < 10 then
    f_X6_behindNumber_31 s x1 x2 x3 x1
  else
    (f_X6_byteAt s x1 x2).bind fun r2 =>
    if r2 = (48 + (x3 / 10)) then
      f_X6_behindNumber_31 s x1 x2 x3 (x1 + 1)
    else
      some x1
set_option maxHeartbeats 4000000 in
set_option maxRecDepth 100000 in
theorem b_X6_behindNumber (s : gS) (r : Int32) : ∀ (x1 : Int32) (x2 : Int32) (x3 : Int32) , f_X6_behindNumber s x1 x2 x3 = some r → Go gTr yX6_behindNumber cX6_behindNumber 6 (some .int) 2 0 0 (fun r9 w9 => r9 = some (.int r) ∧ w9 = wW s) 0 0 (wW s) 0 [some (.ref 19), some (.int x1), some (.int x2), some (.int x3), none, none] [] := by
  intro x1 x2 x3 h
  rw [f_X6_behindNumber] at h
  refine go_iload_n (q := 1) dX6_behindNumber_0 rfl rfl ?_
  refine go_istore (ls2 := [some (.ref 19), some (.int x1), some (.int x2), some (.int x3), some (.int x1), none]) (q := 3) dX6_behindNumber_1 (by decide) rfl rfl ?_
  refine go_iload_n (q := 4) dX6_behindNumber_3 rfl rfl ?_
  refine go_bipush (v := 10) (q := 6) dX6_behindNumber_4 (by decide) rfl ?_
  refine go_icmp_lt (tgt := 31) (q := 9) dX6_behindNumber_6 (by decide) rfl (fun c1 => ?_) (fun c1 => ?_)
  · replace h := g_pos c1 h
    refine go_ls (ls2 := [some (.ref 19), some (.int x1), some (.int x2), some (.int x3), some (.int x1), none]) ⟨rfl, rfl, rfl, rfl, rfl, trivial⟩ ?_
    exact b_X6_behindNumber_31 s r x1 x2 x3 x1 h
  · replace h := g_neg c1 h
    refine go_aload_n (q := 10) dX6_behindNumber_9 rfl rfl ?_
    refine go_iload (q := 12) dX6_behindNumber_10 rfl rfl ?_
    refine go_iload_n (q := 13) dX6_behindNumber_12 rfl rfl ?_
    obtain ⟨r2, e3, h⟩ := g_bind h
    refine go_callV0 (q := 16) (as := [.int x1, .int x2]) (rest := []) (st2 := [.int r2]) (w2 := wW s) dX6_behindNumber_13 cX6_30 (t_X6_byteAt s x1 x2 _ e3) (wg_19 _) rfl rfl rfl (Nat.le_of_ble_eq_true rfl) (by decide) ⟨Nat.le_refl _, Nat.le_refl _⟩ rfl rfl ?_
    refine go_bipush (v := 48) (q := 18) dX6_behindNumber_16 (by decide) rfl ?_
    refine go_iload_n (q := 19) dX6_behindNumber_18 rfl rfl ?_
    refine go_bipush (v := 10) (q := 21) dX6_behindNumber_19 (by decide) rfl ?_
    refine go_idiv (q := 22) dX6_behindNumber_21 (by decide) rfl ?_
    refine go_iadd (q := 23) dX6_behindNumber_22 rfl ?_
    refine go_icmp_eq (tgt := 28) (q := 26) dX6_behindNumber_23 (by decide) rfl (fun c4 => ?_) (fun c4 => ?_)
    · replace h := g_pos c4 h
      refine go_iinc (v := x1 + 1) (ls2 := [some (.ref 19), some (.int x1), some (.int x2), some (.int x3), some (.int (x1 + 1)), none]) (q := 31) dX6_behindNumber_28 (by decide) rfl rfl rfl rfl ?_
      refine go_ls (ls2 := [some (.ref 19), some (.int x1), some (.int x2), some (.int x3), some (.int (x1 + 1)), none]) ⟨rfl, rfl, rfl, rfl, rfl, trivial⟩ ?_
      exact b_X6_behindNumber_31 s r x1 x2 x3 (x1 + 1) h
    · replace h := g_neg c4 h
      refine go_iload_n (q := 27) dX6_behindNumber_26 rfl rfl ?_
      cases h
      exact go_iret dX6_behindNumber_27 rfl rfl (Nat.le_refl _) (Nat.le_refl _) ⟨rfl, rfl⟩
theorem t_X6_behindNumber (s : gS) (x1 : Int32) (x2 : Int32) (x3 : Int32) (r : Int32) (h : f_X6_behindNumber s x1 x2 x3 = some r) : Cal 2 mX6_behindNumber [.ref 19, .int x1, .int x2, .int x3] (wW s) 0 0 (some (.int r)) (wW s) := Cal.of (by decide) (g_cats rfl) (Nat.le_of_ble_eq_true rfl) (b_X6_behindNumber s r x1 x2 x3 h)
def f_X6_isCellAt (s : gS) (x1 : Int32) (x2 : Int32) : Option Int32 :=
  (f_X6_byteAt s x1 x2).bind fun r1 =>
  (f_X6_byteAt s (x1 + 1) x2).bind fun r3 =>
  if r1 < 97 then
    some 0
  else
    if 100 < r1 then
      some 0
    else
      if r3 < 49 then
        some 0
      else
        if 52 < r3 then
          some 0
        else
          some 1
set_option maxHeartbeats 4000000 in
set_option maxRecDepth 100000 in
theorem b_X6_isCellAt (s : gS) (r : Int32) : ∀ (x1 : Int32) (x2 : Int32) , f_X6_isCellAt s x1 x2 = some r → Go gTr yX6_isCellAt cX6_isCellAt 5 (some .boolean) 2 0 0 (fun r9 w9 => r9 = some (.int r) ∧ w9 = wW s) 0 0 (wW s) 0 [some (.ref 19), some (.int x1), some (.int x2), none, none] [] := by
  intro x1 x2 h
  rw [f_X6_isCellAt] at h
  refine go_aload_n (q := 1) dX6_isCellAt_0 rfl rfl ?_
  refine go_iload_n (q := 2) dX6_isCellAt_1 rfl rfl ?_
  refine go_iload_n (q := 3) dX6_isCellAt_2 rfl rfl ?_
  obtain ⟨r1, e2, h⟩ := g_bind h
  refine go_callV0 (q := 6) (as := [.int x1, .int x2]) (rest := []) (st2 := [.int r1]) (w2 := wW s) dX6_isCellAt_3 cX6_30 (t_X6_byteAt s x1 x2 _ e2) (wg_19 _) rfl rfl rfl (Nat.le_of_ble_eq_true rfl) (by decide) ⟨Nat.le_refl _, Nat.le_refl _⟩ rfl rfl ?_
  refine go_istore_n (ls2 := [some (.ref 19), some (.int x1), some (.int x2), some (.int r1), none]) (q := 7) dX6_isCellAt_6 (by decide) rfl rfl ?_
  refine go_aload_n (q := 8) dX6_isCellAt_7 rfl rfl ?_
  refine go_iload_n (q := 9) dX6_isCellAt_8 rfl rfl ?_
  refine go_iconst (v := 1) (q := 10) dX6_isCellAt_9 (by decide) rfl ?_
  refine go_iadd (q := 11) dX6_isCellAt_10 rfl ?_
  refine go_iload_n (q := 12) dX6_isCellAt_11 rfl rfl ?_
  obtain ⟨r3, e4, h⟩ := g_bind h
  refine go_callV0 (q := 15) (as := [.int (x1 + 1), .int x2]) (rest := []) (st2 := [.int r3]) (w2 := wW s) dX6_isCellAt_12 cX6_30 (t_X6_byteAt s (x1 + 1) x2 _ e4) (wg_19 _) rfl rfl rfl (Nat.le_of_ble_eq_true rfl) (by decide) ⟨Nat.le_refl _, Nat.le_refl _⟩ rfl rfl ?_
  refine go_istore (ls2 := [some (.ref 19), some (.int x1), some (.int x2), some (.int r1), some (.int r3)]) (q := 17) dX6_isCellAt_15 (by decide) rfl rfl ?_
  refine go_iload_n (q := 18) dX6_isCellAt_17 rfl rfl ?_
  refine go_bipush (v := 97) (q := 20) dX6_isCellAt_18 (by decide) rfl ?_
  refine go_icmp_lt (tgt := 47) (q := 23) dX6_isCellAt_20 (by decide) rfl (fun c5 => ?_) (fun c5 => ?_)
  · replace h := g_pos c5 h
    refine go_iconst (v := 0) (q := 48) dX6_isCellAt_47 (by decide) rfl ?_
    cases h
    exact go_iret dX6_isCellAt_48 rfl rfl (Nat.le_refl _) (Nat.le_refl _) ⟨rfl, rfl⟩
  · replace h := g_neg c5 h
    refine go_iload_n (q := 24) dX6_isCellAt_23 rfl rfl ?_
    refine go_bipush (v := 100) (q := 26) dX6_isCellAt_24 (by decide) rfl ?_
    refine go_icmp_gt (tgt := 47) (q := 29) dX6_isCellAt_26 (by decide) rfl (fun c6 => ?_) (fun c6 => ?_)
    · replace h := g_pos c6 h
      refine go_iconst (v := 0) (q := 48) dX6_isCellAt_47 (by decide) rfl ?_
      cases h
      exact go_iret dX6_isCellAt_48 rfl rfl (Nat.le_refl _) (Nat.le_refl _) ⟨rfl, rfl⟩
    · replace h := g_neg c6 h
      refine go_iload (q := 31) dX6_isCellAt_29 rfl rfl ?_
      refine go_bipush (v := 49) (q := 33) dX6_isCellAt_31 (by decide) rfl ?_
      refine go_icmp_lt (tgt := 47) (q := 36) dX6_isCellAt_33 (by decide) rfl (fun c7 => ?_) (fun c7 => ?_)
      · replace h := g_pos c7 h
        refine go_iconst (v := 0) (q := 48) dX6_isCellAt_47 (by decide) rfl ?_
        cases h
        exact go_iret dX6_isCellAt_48 rfl rfl (Nat.le_refl _) (Nat.le_refl _) ⟨rfl, rfl⟩
      · replace h := g_neg c7 h
        refine go_iload (q := 38) dX6_isCellAt_36 rfl rfl ?_
        refine go_bipush (v := 52) (q := 40) dX6_isCellAt_38 (by decide) rfl ?_
        refine go_icmp_gt (tgt := 47) (q := 43) dX6_isCellAt_40 (by decide) rfl (fun c8 => ?_) (fun c8 => ?_)
        · replace h := g_pos c8 h
          refine go_iconst (v := 0) (q := 48) dX6_isCellAt_47 (by decide) rfl ?_
          cases h
          exact go_iret dX6_isCellAt_48 rfl rfl (Nat.le_refl _) (Nat.le_refl _) ⟨rfl, rfl⟩
        · replace h := g_neg c8 h
          refine go_iconst (v := 1) (q := 44) dX6_isCellAt_43 (by decide) rfl ?_
          refine go_goto (tgt := 48) dX6_isCellAt_44 (by decide) ?_
          cases h
          exact go_iret dX6_isCellAt_48 rfl rfl (Nat.le_refl _) (Nat.le_refl _) ⟨rfl, rfl⟩
theorem t_X6_isCellAt (s : gS) (x1 : Int32) (x2 : Int32) (r : Int32) (h : f_X6_isCellAt s x1 x2 = some r) : Cal 2 mX6_isCellAt [.ref 19, .int x1, .int x2] (wW s) 0 0 (some (.int r)) (wW s) := Cal.of (by decide) (g_cats rfl) (Nat.le_of_ble_eq_true rfl) (b_X6_isCellAt s r x1 x2 h)
def f_X6_isDigitAt (s : gS) (x1 : Int32) (x2 : Int32) : Option Int32 :=
  (f_X6_byteAt s x1 x2).bind fun r1 =>
  if r1 < 48 then
    some 0
  else
    if 57 < r1 then
      some 0
    else
      some 1
set_option maxHeartbeats 4000000 in
set_option maxRecDepth 100000 in
theorem b_X6_isDigitAt (s : gS) (r : Int32) : ∀ (x1 : Int32) (x2 : Int32) , f_X6_isDigitAt s x1 x2 = some r → Go gTr yX6_isDigitAt cX6_isDigitAt 4 (some .boolean) 2 0 0 (fun r9 w9 => r9 = some (.int r) ∧ w9 = wW s) 0 0 (wW s) 0 [some (.ref 19), some (.int x1), some (.int x2), none] [] := by
  intro x1 x2 h
  rw [f_X6_isDigitAt] at h
  refine go_aload_n (q := 1) dX6_isDigitAt_0 rfl rfl ?_
  refine go_iload_n (q := 2) dX6_isDigitAt_1 rfl rfl ?_
  refine go_iload_n (q := 3) dX6_isDigitAt_2 rfl rfl ?_
  obtain ⟨r1, e2, h⟩ := g_bind h
  refine go_callV0 (q := 6) (as := [.int x1, .int x2]) (rest := []) (st2 := [.int r1]) (w2 := wW s) dX6_isDigitAt_3 cX6_30 (t_X6_byteAt s x1 x2 _ e2) (wg_19 _) rfl rfl rfl (Nat.le_of_ble_eq_true rfl) (by decide) ⟨Nat.le_refl _, Nat.le_refl _⟩ rfl rfl ?_
  refine go_istore_n (ls2 := [some (.ref 19), some (.int x1), some (.int x2), some (.int r1)]) (q := 7) dX6_isDigitAt_6 (by decide) rfl rfl ?_
  refine go_iload_n (q := 8) dX6_isDigitAt_7 rfl rfl ?_
  refine go_bipush (v := 48) (q := 10) dX6_isDigitAt_8 (by decide) rfl ?_
  refine go_icmp_lt (tgt := 23) (q := 13) dX6_isDigitAt_10 (by decide) rfl (fun c3 => ?_) (fun c3 => ?_)
  · replace h := g_pos c3 h
    refine go_iconst (v := 0) (q := 24) dX6_isDigitAt_23 (by decide) rfl ?_
    cases h
    exact go_iret dX6_isDigitAt_24 rfl rfl (Nat.le_refl _) (Nat.le_refl _) ⟨rfl, rfl⟩
  · replace h := g_neg c3 h
    refine go_iload_n (q := 14) dX6_isDigitAt_13 rfl rfl ?_
    refine go_bipush (v := 57) (q := 16) dX6_isDigitAt_14 (by decide) rfl ?_
    refine go_icmp_gt (tgt := 23) (q := 19) dX6_isDigitAt_16 (by decide) rfl (fun c4 => ?_) (fun c4 => ?_)
    · replace h := g_pos c4 h
      refine go_iconst (v := 0) (q := 24) dX6_isDigitAt_23 (by decide) rfl ?_
      cases h
      exact go_iret dX6_isDigitAt_24 rfl rfl (Nat.le_refl _) (Nat.le_refl _) ⟨rfl, rfl⟩
    · replace h := g_neg c4 h
      refine go_iconst (v := 1) (q := 20) dX6_isDigitAt_19 (by decide) rfl ?_
      refine go_goto (tgt := 24) dX6_isDigitAt_20 (by decide) ?_
      cases h
      exact go_iret dX6_isDigitAt_24 rfl rfl (Nat.le_refl _) (Nat.le_refl _) ⟨rfl, rfl⟩
theorem t_X6_isDigitAt (s : gS) (x1 : Int32) (x2 : Int32) (r : Int32) (h : f_X6_isDigitAt s x1 x2 = some r) : Cal 2 mX6_isDigitAt [.ref 19, .int x1, .int x2] (wW s) 0 0 (some (.int r)) (wW s) := Cal.of (by decide) (g_cats rfl) (Nat.le_of_ble_eq_true rfl) (b_X6_isDigitAt s r x1 x2 h)
def f_X6_behindSign (s : gS) (x1 : Int32) (x2 : Int32) : Option Int32 :=
  (f_X6_byteAt s x1 x2).bind fun r1 =>
  if r1 = 33 then
    some (x1 + 1)
  else
    if r1 = 35 then
      some (x1 + 1)
    else
      if r1 = 42 then
        (f_X6_isCellAt s (x1 + 1) x2).bind fun r6 =>
        if r6 = 0 then
          some x1
        else
          some (x1 + 3)
      else
        if r1 = 43 then
          (f_X6_isDigitAt s (x1 + 1) x2).bind fun r10 =>
          if r10 = 0 then
            some x1
          else
            (f_X6_isDigitAt s (x1 + 2) x2).bind fun r13 =>
            if r13 = 0 then
              some (x1 + 2)
            else
              some (x1 + 3)
        else
          if r1 = 61 then
            some (x1 + 1)
          else
            if r1 = 63 then
              some (x1 + 1)
            else
              some x1
set_option maxHeartbeats 4000000 in
set_option maxRecDepth 100000 in
theorem b_X6_behindSign (s : gS) (r : Int32) : ∀ (x1 : Int32) (x2 : Int32) , f_X6_behindSign s x1 x2 = some r → Go gTr yX6_behindSign cX6_behindSign 3 (some .int) 3 0 0 (fun r9 w9 => r9 = some (.int r) ∧ w9 = wW s) 0 0 (wW s) 0 [some (.ref 19), some (.int x1), some (.int x2)] [] := by
  intro x1 x2 h
  rw [f_X6_behindSign] at h
  refine go_aload_n (q := 1) dX6_behindSign_0 rfl rfl ?_
  refine go_iload_n (q := 2) dX6_behindSign_1 rfl rfl ?_
  refine go_iload_n (q := 3) dX6_behindSign_2 rfl rfl ?_
  obtain ⟨r1, e2, h⟩ := g_bind h
  refine go_callV0 (q := 6) (as := [.int x1, .int x2]) (rest := []) (st2 := [.int r1]) (w2 := wW s) dX6_behindSign_3 cX6_30 (t_X6_byteAt s x1 x2 _ e2) (wg_19 _) rfl rfl rfl (Nat.le_of_ble_eq_true rfl) (by decide) ⟨Nat.le_refl _, Nat.le_refl _⟩ rfl rfl ?_
  by_cases c3 : r1 = 33
  · replace h := g_pos c3 h
    refine go_lookup (off := 58) (tgt := 64) dX6_behindSign_6 (by decide) (by rw [c3]; decide) (by decide) ?_
    refine go_iload_n (q := 65) dX6_behindSign_64 rfl rfl ?_
    refine go_iconst (v := 1) (q := 66) dX6_behindSign_65 (by decide) rfl ?_
    refine go_iadd (q := 67) dX6_behindSign_66 rfl ?_
    cases h
    exact go_iret dX6_behindSign_67 rfl rfl (Nat.le_refl _) (Nat.le_refl _) ⟨rfl, rfl⟩
  replace h := g_neg c3 h
  by_cases c4 : r1 = 35
  · replace h := g_pos c4 h
    refine go_lookup (off := 58) (tgt := 64) dX6_behindSign_6 (by decide) (by rw [c4]; decide) (by decide) ?_
    refine go_iload_n (q := 65) dX6_behindSign_64 rfl rfl ?_
    refine go_iconst (v := 1) (q := 66) dX6_behindSign_65 (by decide) rfl ?_
    refine go_iadd (q := 67) dX6_behindSign_66 rfl ?_
    cases h
    exact go_iret dX6_behindSign_67 rfl rfl (Nat.le_refl _) (Nat.le_refl _) ⟨rfl, rfl⟩
  replace h := g_neg c4 h
  by_cases c5 : r1 = 42
  · replace h := g_pos c5 h
    refine go_lookup (off := 62) (tgt := 68) dX6_behindSign_6 (by decide) (by rw [c5]; decide) (by decide) ?_
    refine go_aload_n (q := 69) dX6_behindSign_68 rfl rfl ?_
    refine go_iload_n (q := 70) dX6_behindSign_69 rfl rfl ?_
    refine go_iconst (v := 1) (q := 71) dX6_behindSign_70 (by decide) rfl ?_
    refine go_iadd (q := 72) dX6_behindSign_71 rfl ?_
    refine go_iload_n (q := 73) dX6_behindSign_72 rfl rfl ?_
    obtain ⟨r6, e7, h⟩ := g_bind h
    refine go_callV0 (q := 76) (as := [.int (x1 + 1), .int x2]) (rest := []) (st2 := [.int r6]) (w2 := wW s) dX6_behindSign_73 cX6_26 (t_X6_isCellAt s (x1 + 1) x2 _ e7) (wg_19 _) rfl rfl rfl (Nat.le_of_ble_eq_true rfl) (by decide) ⟨Nat.le_refl _, Nat.le_refl _⟩ rfl rfl ?_
    refine go_if_eq (tgt := 85) (q := 79) dX6_behindSign_76 (by decide) rfl (fun c8 => ?_) (fun c8 => ?_)
    · replace h := g_pos c8 h
      refine go_iload_n (q := 86) dX6_behindSign_85 rfl rfl ?_
      cases h
      exact go_iret dX6_behindSign_86 rfl rfl (Nat.le_refl _) (Nat.le_refl _) ⟨rfl, rfl⟩
    · replace h := g_neg c8 h
      refine go_iload_n (q := 80) dX6_behindSign_79 rfl rfl ?_
      refine go_iconst (v := 3) (q := 81) dX6_behindSign_80 (by decide) rfl ?_
      refine go_iadd (q := 82) dX6_behindSign_81 rfl ?_
      refine go_goto (tgt := 86) dX6_behindSign_82 (by decide) ?_
      cases h
      exact go_iret dX6_behindSign_86 rfl rfl (Nat.le_refl _) (Nat.le_refl _) ⟨rfl, rfl⟩
  replace h := g_neg c5 h
  by_cases c9 : r1 = 43
  · replace h := g_pos c9 h
    refine go_lookup (off := 81) (tgt := 87) dX6_behindSign_6 (by decide) (by rw [c9]; decide) (by decide) ?_
    refine go_aload_n (q := 88) dX6_behindSign_87 rfl rfl ?_
    refine go_iload_n (q := 89) dX6_behindSign_88 rfl rfl ?_
    refine go_iconst (v := 1) (q := 90) dX6_behindSign_89 (by decide) rfl ?_
    refine go_iadd (q := 91) dX6_behindSign_90 rfl ?_
    refine go_iload_n (q := 92) dX6_behindSign_91 rfl rfl ?_
    obtain ⟨r10, e11, h⟩ := g_bind h
    refine go_callV0 (q := 95) (as := [.int (x1 + 1), .int x2]) (rest := []) (st2 := [.int r10]) (w2 := wW s) dX6_behindSign_92 cX6_49 (t_X6_isDigitAt s (x1 + 1) x2 _ e11) (wg_19 _) rfl rfl rfl (Nat.le_of_ble_eq_true rfl) (by decide) ⟨Nat.le_refl _, Nat.le_refl _⟩ rfl rfl ?_
    refine go_if_ne (tgt := 100) (q := 98) dX6_behindSign_95 (by decide) rfl (fun c12 => ?_) (fun c12 => ?_)
    · replace h := g_neg c12 h
      refine go_aload_n (q := 101) dX6_behindSign_100 rfl rfl ?_
      refine go_iload_n (q := 102) dX6_behindSign_101 rfl rfl ?_
      refine go_iconst (v := 2) (q := 103) dX6_behindSign_102 (by decide) rfl ?_
      refine go_iadd (q := 104) dX6_behindSign_103 rfl ?_
      refine go_iload_n (q := 105) dX6_behindSign_104 rfl rfl ?_
      obtain ⟨r13, e14, h⟩ := g_bind h
      refine go_callV0 (q := 108) (as := [.int (x1 + 2), .int x2]) (rest := []) (st2 := [.int r13]) (w2 := wW s) dX6_behindSign_105 cX6_49 (t_X6_isDigitAt s (x1 + 2) x2 _ e14) (wg_19 _) rfl rfl rfl (Nat.le_of_ble_eq_true rfl) (by decide) ⟨Nat.le_refl _, Nat.le_refl _⟩ rfl rfl ?_
      refine go_if_eq (tgt := 117) (q := 111) dX6_behindSign_108 (by decide) rfl (fun c15 => ?_) (fun c15 => ?_)
      · replace h := g_pos c15 h
        refine go_iload_n (q := 118) dX6_behindSign_117 rfl rfl ?_
        refine go_iconst (v := 2) (q := 119) dX6_behindSign_118 (by decide) rfl ?_
        refine go_iadd (q := 120) dX6_behindSign_119 rfl ?_
        cases h
        exact go_iret dX6_behindSign_120 rfl rfl (Nat.le_refl _) (Nat.le_refl _) ⟨rfl, rfl⟩
      · replace h := g_neg c15 h
        refine go_iload_n (q := 112) dX6_behindSign_111 rfl rfl ?_
        refine go_iconst (v := 3) (q := 113) dX6_behindSign_112 (by decide) rfl ?_
        refine go_iadd (q := 114) dX6_behindSign_113 rfl ?_
        refine go_goto (tgt := 120) dX6_behindSign_114 (by decide) ?_
        cases h
        exact go_iret dX6_behindSign_120 rfl rfl (Nat.le_refl _) (Nat.le_refl _) ⟨rfl, rfl⟩
    · replace h := g_pos c12 h
      refine go_iload_n (q := 99) dX6_behindSign_98 rfl rfl ?_
      cases h
      exact go_iret dX6_behindSign_99 rfl rfl (Nat.le_refl _) (Nat.le_refl _) ⟨rfl, rfl⟩
  replace h := g_neg c9 h
  by_cases c16 : r1 = 61
  · replace h := g_pos c16 h
    refine go_lookup (off := 58) (tgt := 64) dX6_behindSign_6 (by decide) (by rw [c16]; decide) (by decide) ?_
    refine go_iload_n (q := 65) dX6_behindSign_64 rfl rfl ?_
    refine go_iconst (v := 1) (q := 66) dX6_behindSign_65 (by decide) rfl ?_
    refine go_iadd (q := 67) dX6_behindSign_66 rfl ?_
    cases h
    exact go_iret dX6_behindSign_67 rfl rfl (Nat.le_refl _) (Nat.le_refl _) ⟨rfl, rfl⟩
  replace h := g_neg c16 h
  by_cases c17 : r1 = 63
  · replace h := g_pos c17 h
    refine go_lookup (off := 58) (tgt := 64) dX6_behindSign_6 (by decide) (by rw [c17]; decide) (by decide) ?_
    refine go_iload_n (q := 65) dX6_behindSign_64 rfl rfl ?_
    refine go_iconst (v := 1) (q := 66) dX6_behindSign_65 (by decide) rfl ?_
    refine go_iadd (q := 67) dX6_behindSign_66 rfl ?_
    cases h
    exact go_iret dX6_behindSign_67 rfl rfl (Nat.le_refl _) (Nat.le_refl _) ⟨rfl, rfl⟩
  replace h := g_neg c17 h
  refine go_lookup (off := 115) (tgt := 121) dX6_behindSign_6 (by decide) ((lv_osw c3 rfl).trans ((lv_osw c4 rfl).trans ((lv_osw c5 rfl).trans ((lv_osw c9 rfl).trans ((lv_osw c16 rfl).trans ((lv_osw c17 rfl).trans rfl)))))) (by decide) ?_
  refine go_iload_n (q := 122) dX6_behindSign_121 rfl rfl ?_
  cases h
  exact go_iret dX6_behindSign_122 rfl rfl (Nat.le_refl _) (Nat.le_refl _) ⟨rfl, rfl⟩
theorem t_X6_behindSign (s : gS) (x1 : Int32) (x2 : Int32) (r : Int32) (h : f_X6_behindSign s x1 x2 = some r) : Cal 3 mX6_behindSign [.ref 19, .int x1, .int x2] (wW s) 0 0 (some (.int r)) (wW s) := Cal.of (by decide) (g_cats rfl) (Nat.le_of_ble_eq_true rfl) (b_X6_behindSign s r x1 x2 h)
def f_X6_behindSigns_5 : Nat → gS → Int32 → Int32 → Int32 → Option Int32
  | 0, _, _, _, _ => none
  | φ + 1, s, x2, x3, x4 =>
    if 120 ≤ x4 then
      some x3
    else
      (f_X6_behindSign s x3 x2).bind fun r2 =>
      if r2 = x3 then
        some x3
      else
        f_X6_behindSigns_5 φ s x2 r2 (x4 + 1)
set_option maxHeartbeats 4000000 in
set_option maxRecDepth 100000 in
theorem b_X6_behindSigns_5 (s : gS) (r : Int32) : ∀ (φ : Nat) (x2 : Int32) (x3 : Int32) (x4 : Int32) , f_X6_behindSigns_5 φ s x2 x3 x4 = some r → Go gTr yX6_behindSigns cX6_behindSigns 6 (some .int) 4 0 0 (fun r9 w9 => r9 = some (.int r) ∧ w9 = wW s) 0 0 (wW s) 5 [some (.ref 19), none, some (.int x2), some (.int x3), some (.int x4), none] [] := by
  intro φ
  induction φ with
  | zero =>
    intro x2 x3 x4 h
    exact absurd h (by intro h0; cases h0)
  | succ φ ih =>
    intro x2 x3 x4 h
    rw [f_X6_behindSigns_5] at h
    refine go_iload (q := 7) dX6_behindSigns_5 rfl rfl ?_
    refine go_bipush (v := 120) (q := 9) dX6_behindSigns_7 (by decide) rfl ?_
    refine go_icmp_ge (tgt := 38) (q := 12) dX6_behindSigns_9 (by decide) rfl (fun c1 => ?_) (fun c1 => ?_)
    · replace h := g_pos c1 h
      refine go_iload_n (q := 39) dX6_behindSigns_38 rfl rfl ?_
      cases h
      exact go_iret dX6_behindSigns_39 rfl rfl (Nat.le_refl _) (Nat.le_refl _) ⟨rfl, rfl⟩
    · replace h := g_neg c1 h
      refine go_aload_n (q := 13) dX6_behindSigns_12 rfl rfl ?_
      refine go_iload_n (q := 14) dX6_behindSigns_13 rfl rfl ?_
      refine go_iload_n (q := 15) dX6_behindSigns_14 rfl rfl ?_
      obtain ⟨r2, e3, h⟩ := g_bind h
      refine go_callV0 (q := 18) (as := [.int x3, .int x2]) (rest := []) (st2 := [.int r2]) (w2 := wW s) dX6_behindSigns_15 cX6_46 (t_X6_behindSign s x3 x2 _ e3) (wg_19 _) rfl rfl rfl (Nat.le_of_ble_eq_true rfl) (by decide) ⟨Nat.le_refl _, Nat.le_refl _⟩ rfl rfl ?_
      refine go_istore (ls2 := [some (.ref 19), none, some (.int x2), some (.int x3), some (.int x4), some (.int r2)]) (q := 20) dX6_behindSigns_18 (by decide) rfl rfl ?_
      refine go_iload (q := 22) dX6_behindSigns_20 rfl rfl ?_
      refine go_iload_n (q := 23) dX6_behindSigns_22 rfl rfl ?_
      refine go_icmp_ne (tgt := 29) (q := 26) dX6_behindSigns_23 (by decide) rfl (fun c4 => ?_) (fun c4 => ?_)
      · replace h := g_neg c4 h
        refine go_iload (q := 31) dX6_behindSigns_29 rfl rfl ?_
        refine go_istore_n (ls2 := [some (.ref 19), none, some (.int x2), some (.int r2), some (.int x4), some (.int r2)]) (q := 32) dX6_behindSigns_31 (by decide) rfl rfl ?_
        refine go_iinc (v := x4 + 1) (ls2 := [some (.ref 19), none, some (.int x2), some (.int r2), some (.int (x4 + 1)), some (.int r2)]) (q := 35) dX6_behindSigns_32 (by decide) rfl rfl rfl rfl ?_
        refine go_goto (tgt := 5) dX6_behindSigns_35 (by decide) ?_
        refine go_ls (ls2 := [some (.ref 19), none, some (.int x2), some (.int r2), some (.int (x4 + 1)), none]) ⟨rfl, rfl, rfl, rfl, trivial⟩ ?_
        exact ih x2 r2 (x4 + 1) h
      · replace h := g_pos c4 h
        refine go_goto (tgt := 38) dX6_behindSigns_26 (by decide) ?_
        refine go_iload_n (q := 39) dX6_behindSigns_38 rfl rfl ?_
        cases h
        exact go_iret dX6_behindSigns_39 rfl rfl (Nat.le_refl _) (Nat.le_refl _) ⟨rfl, rfl⟩
def f_X6_behindSigns (s : gS) (x1 : Int32) (x2 : Int32) : Option Int32 :=
  f_X6_behindSigns_5 gφ s x2 x1 0
set_option maxHeartbeats 4000000 in
set_option maxRecDepth 100000 in
theorem b_X6_behindSigns (s : gS) (r : Int32) : ∀ (x1 : Int32) (x2 : Int32) , f_X6_behindSigns s x1 x2 = some r → Go gTr yX6_behindSigns cX6_behindSigns 6 (some .int) 4 0 0 (fun r9 w9 => r9 = some (.int r) ∧ w9 = wW s) 0 0 (wW s) 0 [some (.ref 19), some (.int x1), some (.int x2), none, none, none] [] := by
  intro x1 x2 h
  rw [f_X6_behindSigns] at h
  refine go_iload_n (q := 1) dX6_behindSigns_0 rfl rfl ?_
  refine go_istore_n (ls2 := [some (.ref 19), some (.int x1), some (.int x2), some (.int x1), none, none]) (q := 2) dX6_behindSigns_1 (by decide) rfl rfl ?_
  refine go_iconst (v := 0) (q := 3) dX6_behindSigns_2 (by decide) rfl ?_
  refine go_istore (ls2 := [some (.ref 19), some (.int x1), some (.int x2), some (.int x1), some (.int 0), none]) (q := 5) dX6_behindSigns_3 (by decide) rfl rfl ?_
  refine go_ls (ls2 := [some (.ref 19), none, some (.int x2), some (.int x1), some (.int 0), none]) ⟨rfl, rfl, rfl, rfl, trivial⟩ ?_
  exact b_X6_behindSigns_5 s r gφ x2 x1 0 h
theorem t_X6_behindSigns (s : gS) (x1 : Int32) (x2 : Int32) (r : Int32) (h : f_X6_behindSigns s x1 x2 = some r) : Cal 4 mX6_behindSigns [.ref 19, .int x1, .int x2] (wW s) 0 0 (some (.int r)) (wW s) := Cal.of (by decide) (g_cats rfl) (Nat.le_of_ble_eq_true rfl) (b_X6_behindSigns s r x1 x2 h)
def f_X6_readWords (s : gS) (x1 : Int32) (x2 : Int32) (x3 : Int32) : Option (Int32 × gS) :=
  (f_X6_behindNumber s x1 x2 x3).bind fun r1 =>
  (f_X6_isCellAt s r1 x2).bind fun r3 =>
  if r3 = 0 then
    some (0, s)
  else
    (f_X6_byteAt s r1 x2).bind fun r6 =>
    (f_X6_byteAt (ss s 14 (r6 - 97)) (r1 + 1) x2).bind fun r8 =>
    (f_X6_behindSigns (ss (ss s 14 (r6 - 97)) 15 (r8 - 49)) (r1 + 2) x2).bind fun r10 =>
    if r10 = x2 then
      some (1, (ss (ss (ss s 14 (r6 - 97)) 15 (r8 - 49)) 16 r10))
    else
      (f_X6_byteAt (ss (ss (ss s 14 (r6 - 97)) 15 (r8 - 49)) 16 r10) r10 x2).bind fun r13 =>
      if r13 = 32 then
        some (1, (ss (ss (ss s 14 (r6 - 97)) 15 (r8 - 49)) 16 r10))
      else
        some (0, (ss (ss (ss s 14 (r6 - 97)) 15 (r8 - 49)) 16 r10))
set_option maxHeartbeats 4000000 in
set_option maxRecDepth 100000 in
theorem b_X6_readWords (r : Int32 × gS) : ∀ (s : gS) (x1 : Int32) (x2 : Int32) (x3 : Int32) , f_X6_readWords s x1 x2 x3 = some r → Go gTr yX6_readWords cX6_readWords 5 (some .boolean) 5 0 0 (fun r9 w9 => r9 = some (.int r.1) ∧ w9 = wW r.2) 0 0 (wW s) 0 [some (.ref 19), some (.int x1), some (.int x2), some (.int x3), none] [] := by
  intro s x1 x2 x3 h
  rw [f_X6_readWords] at h
  refine go_aload_n (q := 1) dX6_readWords_0 rfl rfl ?_
  refine go_iload_n (q := 2) dX6_readWords_1 rfl rfl ?_
  refine go_iload_n (q := 3) dX6_readWords_2 rfl rfl ?_
  refine go_iload_n (q := 4) dX6_readWords_3 rfl rfl ?_
  obtain ⟨r1, e2, h⟩ := g_bind h
  refine go_callV0 (q := 7) (as := [.int x1, .int x2, .int x3]) (rest := []) (st2 := [.int r1]) (w2 := wW s) dX6_readWords_4 cX6_22 (t_X6_behindNumber s x1 x2 x3 _ e2) (wg_19 _) rfl rfl rfl (Nat.le_of_ble_eq_true rfl) (by decide) ⟨Nat.le_refl _, Nat.le_refl _⟩ rfl rfl ?_
  refine go_istore (ls2 := [some (.ref 19), some (.int x1), some (.int x2), some (.int x3), some (.int r1)]) (q := 9) dX6_readWords_7 (by decide) rfl rfl ?_
  refine go_aload_n (q := 10) dX6_readWords_9 rfl rfl ?_
  refine go_iload (q := 12) dX6_readWords_10 rfl rfl ?_
  refine go_iload_n (q := 13) dX6_readWords_12 rfl rfl ?_
  obtain ⟨r3, e4, h⟩ := g_bind h
  refine go_callV0 (q := 16) (as := [.int r1, .int x2]) (rest := []) (st2 := [.int r3]) (w2 := wW s) dX6_readWords_13 cX6_26 (t_X6_isCellAt s r1 x2 _ e4) (wg_19 _) rfl rfl rfl (Nat.le_of_ble_eq_true rfl) (by decide) ⟨Nat.le_refl _, Nat.le_refl _⟩ rfl rfl ?_
  refine go_if_ne (tgt := 21) (q := 19) dX6_readWords_16 (by decide) rfl (fun c5 => ?_) (fun c5 => ?_)
  · replace h := g_neg c5 h
    refine go_aload_n (q := 22) dX6_readWords_21 rfl rfl ?_
    refine go_aload_n (q := 23) dX6_readWords_22 rfl rfl ?_
    refine go_iload (q := 25) dX6_readWords_23 rfl rfl ?_
    refine go_iload_n (q := 26) dX6_readWords_25 rfl rfl ?_
    obtain ⟨r6, e7, h⟩ := g_bind h
    refine go_callV0 (q := 29) (as := [.int r1, .int x2]) (rest := [.ref 19]) (st2 := [.int r6, .ref 19]) (w2 := wW s) dX6_readWords_26 cX6_30 (t_X6_byteAt s r1 x2 _ e7) (wg_19 _) rfl rfl rfl (Nat.le_of_ble_eq_true rfl) (by decide) ⟨Nat.le_refl _, Nat.le_refl _⟩ rfl rfl ?_
    refine go_bipush (v := 97) (q := 31) dX6_readWords_29 (by decide) rfl ?_
    refine go_isub (q := 32) dX6_readWords_31 rfl ?_
    refine go_put (w2 := wW (ss s 14 (r6 - 97))) (q := 35) dX6_readWords_32 fX6_34 (wg_19 _) (Nat.le_of_ble_eq_true rfl) (fun _ => rfl) (fun _ => rfl) (wp_19_3 _ _) rfl ?_
    refine go_aload_n (q := 36) dX6_readWords_35 rfl rfl ?_
    refine go_aload_n (q := 37) dX6_readWords_36 rfl rfl ?_
    refine go_iload (q := 39) dX6_readWords_37 rfl rfl ?_
    refine go_iconst (v := 1) (q := 40) dX6_readWords_39 (by decide) rfl ?_
    refine go_iadd (q := 41) dX6_readWords_40 rfl ?_
    refine go_iload_n (q := 42) dX6_readWords_41 rfl rfl ?_
    obtain ⟨r8, e9, h⟩ := g_bind h
    refine go_callV0 (q := 45) (as := [.int (r1 + 1), .int x2]) (rest := [.ref 19]) (st2 := [.int r8, .ref 19]) (w2 := wW (ss s 14 (r6 - 97))) dX6_readWords_42 cX6_30 (t_X6_byteAt (ss s 14 (r6 - 97)) (r1 + 1) x2 _ e9) (wg_19 _) rfl rfl rfl (Nat.le_of_ble_eq_true rfl) (by decide) ⟨Nat.le_refl _, Nat.le_refl _⟩ rfl rfl ?_
    refine go_bipush (v := 49) (q := 47) dX6_readWords_45 (by decide) rfl ?_
    refine go_isub (q := 48) dX6_readWords_47 rfl ?_
    refine go_put (w2 := wW (ss (ss s 14 (r6 - 97)) 15 (r8 - 49))) (q := 51) dX6_readWords_48 fX6_37 (wg_19 _) (Nat.le_of_ble_eq_true rfl) (fun _ => rfl) (fun _ => rfl) (wp_19_4 _ _) rfl ?_
    refine go_aload_n (q := 52) dX6_readWords_51 rfl rfl ?_
    refine go_aload_n (q := 53) dX6_readWords_52 rfl rfl ?_
    refine go_iload (q := 55) dX6_readWords_53 rfl rfl ?_
    refine go_iconst (v := 2) (q := 56) dX6_readWords_55 (by decide) rfl ?_
    refine go_iadd (q := 57) dX6_readWords_56 rfl ?_
    refine go_iload_n (q := 58) dX6_readWords_57 rfl rfl ?_
    obtain ⟨r10, e11, h⟩ := g_bind h
    refine go_callV0 (q := 61) (as := [.int (r1 + 2), .int x2]) (rest := [.ref 19]) (st2 := [.int r10, .ref 19]) (w2 := wW (ss (ss s 14 (r6 - 97)) 15 (r8 - 49))) dX6_readWords_58 cX6_40 (t_X6_behindSigns (ss (ss s 14 (r6 - 97)) 15 (r8 - 49)) (r1 + 2) x2 _ e11) (wg_19 _) rfl rfl rfl (Nat.le_of_ble_eq_true rfl) (by decide) ⟨Nat.le_refl _, Nat.le_refl _⟩ rfl rfl ?_
    refine go_put (w2 := wW (ss (ss (ss s 14 (r6 - 97)) 15 (r8 - 49)) 16 r10)) (q := 64) dX6_readWords_61 fX6_43 (wg_19 _) (Nat.le_of_ble_eq_true rfl) (fun _ => rfl) (fun _ => rfl) (wp_19_5 _ _) rfl ?_
    refine go_aload_n (q := 65) dX6_readWords_64 rfl rfl ?_
    refine go_get (v := .int r10) (q := 68) dX6_readWords_65 fX6_43 (wg_19 _) rfl rfl ?_
    refine go_iload_n (q := 69) dX6_readWords_68 rfl rfl ?_
    refine go_icmp_eq (tgt := 86) (q := 72) dX6_readWords_69 (by decide) rfl (fun c12 => ?_) (fun c12 => ?_)
    · replace h := g_pos c12 h
      refine go_iconst (v := 1) (q := 87) dX6_readWords_86 (by decide) rfl ?_
      refine go_goto (tgt := 91) dX6_readWords_87 (by decide) ?_
      cases h
      exact go_iret dX6_readWords_91 rfl rfl (Nat.le_refl _) (Nat.le_refl _) ⟨rfl, rfl⟩
    · replace h := g_neg c12 h
      refine go_aload_n (q := 73) dX6_readWords_72 rfl rfl ?_
      refine go_aload_n (q := 74) dX6_readWords_73 rfl rfl ?_
      refine go_get (v := .int r10) (q := 77) dX6_readWords_74 fX6_43 (wg_19 _) rfl rfl ?_
      refine go_iload_n (q := 78) dX6_readWords_77 rfl rfl ?_
      obtain ⟨r13, e14, h⟩ := g_bind h
      refine go_callV0 (q := 81) (as := [.int r10, .int x2]) (rest := []) (st2 := [.int r13]) (w2 := wW (ss (ss (ss s 14 (r6 - 97)) 15 (r8 - 49)) 16 r10)) dX6_readWords_78 cX6_30 (t_X6_byteAt (ss (ss (ss s 14 (r6 - 97)) 15 (r8 - 49)) 16 r10) r10 x2 _ e14) (wg_19 _) rfl rfl rfl (Nat.le_of_ble_eq_true rfl) (by decide) ⟨Nat.le_refl _, Nat.le_refl _⟩ rfl rfl ?_
      refine go_bipush (v := 32) (q := 83) dX6_readWords_81 (by decide) rfl ?_
      refine go_icmp_ne (tgt := 90) (q := 86) dX6_readWords_83 (by decide) rfl (fun c15 => ?_) (fun c15 => ?_)
      · replace h := g_neg c15 h
        refine go_iconst (v := 0) (q := 91) dX6_readWords_90 (by decide) rfl ?_
        cases h
        exact go_iret dX6_readWords_91 rfl rfl (Nat.le_refl _) (Nat.le_refl _) ⟨rfl, rfl⟩
      · replace h := g_pos c15 h
        refine go_iconst (v := 1) (q := 87) dX6_readWords_86 (by decide) rfl ?_
        refine go_goto (tgt := 91) dX6_readWords_87 (by decide) ?_
        cases h
        exact go_iret dX6_readWords_91 rfl rfl (Nat.le_refl _) (Nat.le_refl _) ⟨rfl, rfl⟩
  · replace h := g_pos c5 h
    refine go_iconst (v := 0) (q := 20) dX6_readWords_19 (by decide) rfl ?_
    cases h
    exact go_iret dX6_readWords_20 rfl rfl (Nat.le_refl _) (Nat.le_refl _) ⟨rfl, rfl⟩
theorem t_X6_readWords (s : gS) (x1 : Int32) (x2 : Int32) (x3 : Int32) (r : Int32 × gS) (h : f_X6_readWords s x1 x2 x3 = some r) : Cal 5 mX6_readWords [.ref 19, .int x1, .int x2, .int x3] (wW s) 0 0 (some (.int r.1)) (wW r.2) := Cal.of (by decide) (g_cats rfl) (Nat.le_of_ble_eq_true rfl) (b_X6_readWords r s x1 x2 x3 h)
def f_X1_clear (s : gS) : Option gS :=
  some (ss s 11 0)
set_option maxHeartbeats 4000000 in
set_option maxRecDepth 100000 in
theorem b_X1_clear (r : gS) : ∀ (s : gS) , f_X1_clear s = some r → Go gTr yX1_clear cX1_clear 1 none 1 0 0 (fun r9 w9 => r9 = none ∧ w9 = wW r) 0 0 (wW s) 0 [some (.ref 12)] [] := by
  intro s h
  rw [f_X1_clear] at h
  refine go_aload_n (q := 1) dX1_clear_0 rfl rfl ?_
  refine go_iconst (v := 0) (q := 2) dX1_clear_1 (by decide) rfl ?_
  refine go_put (w2 := wW (ss s 11 0)) (q := 5) dX1_clear_2 fX1_30 (wg_12 _) (Nat.le_of_ble_eq_true rfl) (fun _ => rfl) (fun _ => rfl) (wp_12_3 _ _) rfl ?_
  cases h
  exact go_ret dX1_clear_5 rfl (Nat.le_refl _) (Nat.le_refl _) ⟨rfl, rfl⟩
theorem t_X1_clear (s : gS) (r : gS) (h : f_X1_clear s = some r) : Cal 1 mX1_clear [.ref 12] (wW s) 0 0 none (wW r) := Cal.of (by decide) (g_cats rfl) (Nat.le_of_ble_eq_true rfl) (b_X1_clear r s h)
def f_X1_offer (s : gS) (x1 : Int32) (x2 : Int32) (x3 : Int32) : Option gS :=
  if 12 ≤ (s.1 11) then
    some s
  else
    if inB (s.1 11) 12 = true then
      if inB (s.1 11) 12 = true then
        if inB (s.1 11) 12 = true then
          some (ss (sa (sa (sa s 5 ((s.1 11).toNatClampNeg) x1) 6 ((s.1 11).toNatClampNeg) x2) 7 ((s.1 11).toNatClampNeg) (x3 + 1)) 11 ((s.1 11) + 1))
        else none
      else none
    else none
set_option maxHeartbeats 4000000 in
set_option maxRecDepth 100000 in
theorem b_X1_offer (r : gS) : ∀ (s : gS) (x1 : Int32) (x2 : Int32) (x3 : Int32) , f_X1_offer s x1 x2 x3 = some r → Go gTr yX1_offer cX1_offer 4 none 1 0 0 (fun r9 w9 => r9 = none ∧ w9 = wW r) 0 0 (wW s) 0 [some (.ref 12), some (.int x1), some (.int x2), some (.int x3)] [] := by
  intro s x1 x2 x3 h
  rw [f_X1_offer] at h
  refine go_aload_n (q := 1) dX1_offer_0 rfl rfl ?_
  refine go_get (v := .int (s.1 11)) (q := 4) dX1_offer_1 fX1_30 (wg_12 _) rfl rfl ?_
  refine go_bipush (v := 12) (q := 6) dX1_offer_4 (by decide) rfl ?_
  refine go_icmp_ge (tgt := 51) (q := 9) dX1_offer_6 (by decide) rfl (fun c1 => ?_) (fun c1 => ?_)
  · replace h := g_pos c1 h
    cases h
    exact go_ret dX1_offer_51 rfl (Nat.le_refl _) (Nat.le_refl _) ⟨rfl, rfl⟩
  · replace h := g_neg c1 h
    refine go_aload_n (q := 10) dX1_offer_9 rfl rfl ?_
    refine go_get (v := .ref 13) (q := 13) dX1_offer_10 fX1_11 (wg_12 _) rfl rfl ?_
    refine go_aload_n (q := 14) dX1_offer_13 rfl rfl ?_
    refine go_get (v := .int (s.1 11)) (q := 17) dX1_offer_14 fX1_30 (wg_12 _) rfl rfl ?_
    refine go_iload_n (q := 18) dX1_offer_17 rfl rfl ?_
    obtain ⟨g2, h⟩ := g_guard h
    refine go_iast (w2 := wW (sa s 5 ((s.1 11).toNatClampNeg) x1)) (q := 19) dX1_offer_18 (wg_13 _) (inB_in g2) (wa_13 _ _ _) rfl ?_
    refine go_aload_n (q := 20) dX1_offer_19 rfl rfl ?_
    refine go_get (v := .ref 14) (q := 23) dX1_offer_20 fX1_15 (wg_12 _) rfl rfl ?_
    refine go_aload_n (q := 24) dX1_offer_23 rfl rfl ?_
    refine go_get (v := .int (s.1 11)) (q := 27) dX1_offer_24 fX1_30 (wg_12 _) rfl rfl ?_
    refine go_iload_n (q := 28) dX1_offer_27 rfl rfl ?_
    obtain ⟨g3, h⟩ := g_guard h
    refine go_iast (w2 := wW (sa (sa s 5 ((s.1 11).toNatClampNeg) x1) 6 ((s.1 11).toNatClampNeg) x2)) (q := 29) dX1_offer_28 (wg_14 _) (inB_in g3) (wa_14 _ _ _) rfl ?_
    refine go_aload_n (q := 30) dX1_offer_29 rfl rfl ?_
    refine go_get (v := .ref 15) (q := 33) dX1_offer_30 fX1_18 (wg_12 _) rfl rfl ?_
    refine go_aload_n (q := 34) dX1_offer_33 rfl rfl ?_
    refine go_get (v := .int (s.1 11)) (q := 37) dX1_offer_34 fX1_30 (wg_12 _) rfl rfl ?_
    refine go_iload_n (q := 38) dX1_offer_37 rfl rfl ?_
    refine go_iconst (v := 1) (q := 39) dX1_offer_38 (by decide) rfl ?_
    refine go_iadd (q := 40) dX1_offer_39 rfl ?_
    obtain ⟨g4, h⟩ := g_guard h
    refine go_iast (w2 := wW (sa (sa (sa s 5 ((s.1 11).toNatClampNeg) x1) 6 ((s.1 11).toNatClampNeg) x2) 7 ((s.1 11).toNatClampNeg) (x3 + 1))) (q := 41) dX1_offer_40 (wg_15 _) (inB_in g4) (wa_15 _ _ _) rfl ?_
    refine go_aload_n (q := 42) dX1_offer_41 rfl rfl ?_
    refine go_dup (q := 43) dX1_offer_42 rfl rfl ?_
    refine go_get (v := .int (s.1 11)) (q := 46) dX1_offer_43 fX1_30 (wg_12 _) rfl rfl ?_
    refine go_iconst (v := 1) (q := 47) dX1_offer_46 (by decide) rfl ?_
    refine go_iadd (q := 48) dX1_offer_47 rfl ?_
    refine go_put (w2 := wW (ss (sa (sa (sa s 5 ((s.1 11).toNatClampNeg) x1) 6 ((s.1 11).toNatClampNeg) x2) 7 ((s.1 11).toNatClampNeg) (x3 + 1)) 11 ((s.1 11) + 1))) (q := 51) dX1_offer_48 fX1_30 (wg_12 _) (Nat.le_of_ble_eq_true rfl) (fun _ => rfl) (fun _ => rfl) (wp_12_3 _ _) rfl ?_
    cases h
    exact go_ret dX1_offer_51 rfl (Nat.le_refl _) (Nat.le_refl _) ⟨rfl, rfl⟩
theorem t_X1_offer (s : gS) (x1 : Int32) (x2 : Int32) (x3 : Int32) (r : gS) (h : f_X1_offer s x1 x2 x3 = some r) : Cal 1 mX1_offer [.ref 12, .int x1, .int x2, .int x3] (wW s) 0 0 none (wW r) := Cal.of (by decide) (g_cats rfl) (Nat.le_of_ble_eq_true rfl) (b_X1_offer r s x1 x2 x3 h)
def f_X1_weigh_139 (K2 : gS → Int32 → Int32 → Option gS) (s : gS) (x1 : Int32) (x3 : Int32) : Option gS :=
  K2 s x1 (x3 + (-1 : Int32))
set_option maxHeartbeats 4000000 in
set_option maxRecDepth 100000 in
theorem b_X1_weigh_139 (K2 : gS → Int32 → Int32 → Option gS) (r : gS) (hK2 : ∀ (s : gS) (x1 : Int32) (x3 : Int32) , K2 s x1 x3 = some r → Go gTr yX1_weigh cX1_weigh 8 none 1 0 0 (fun r9 w9 => r9 = none ∧ w9 = wW r) 0 0 (wW s) 2 [some (.ref 12), some (.int x1), none, some (.int x3), none, none, none, none] []) : ∀ (s : gS) (x1 : Int32) (x3 : Int32) , f_X1_weigh_139 K2 s x1 x3 = some r → Go gTr yX1_weigh cX1_weigh 8 none 1 0 0 (fun r9 w9 => r9 = none ∧ w9 = wW r) 0 0 (wW s) 139 [some (.ref 12), some (.int x1), none, some (.int x3), none, none, none, none] [] := by
  intro s x1 x3 h
  rw [f_X1_weigh_139] at h
  refine go_iinc (v := x3 + (-1 : Int32)) (ls2 := [some (.ref 12), some (.int x1), none, some (.int (x3 + (-1 : Int32))), none, none, none, none]) (q := 142) dX1_weigh_139 (by decide) rfl rfl rfl rfl ?_
  refine go_goto (tgt := 2) dX1_weigh_142 (by decide) ?_
  refine go_ls (ls2 := [some (.ref 12), some (.int x1), none, some (.int (x3 + (-1 : Int32))), none, none, none, none]) ⟨rfl, rfl, rfl, trivial⟩ ?_
  exact hK2 s x1 (x3 + (-1 : Int32)) h
def f_X1_weigh_99 (K2 : gS → Int32 → Int32 → Option gS) (s : gS) (x1 : Int32) (x3 : Int32) (x4 : Int32) (x5 : Int32) (x6 : Int32) : Option gS :=
  if inB x3 202 = true then
    if inB x3 202 = true then
      if inB x4 202 = true then
        if inB x1 12 = true then
          if inB x3 202 = true then
            f_X1_weigh_139 K2 (sa (sa (sa s 8 x3.toNatClampNeg x5) 9 x3.toNatClampNeg x6) 10 x3.toNatClampNeg ((s.2 10 x4.toNatClampNeg) ||| (1 <<< (((s.2 5 x1.toNatClampNeg) - 1) &&& 31)))) x1 x3
          else none
        else none
      else none
    else none
  else none
set_option maxHeartbeats 4000000 in
set_option maxRecDepth 100000 in
theorem b_X1_weigh_99 (K2 : gS → Int32 → Int32 → Option gS) (r : gS) (hK2 : ∀ (s : gS) (x1 : Int32) (x3 : Int32) , K2 s x1 x3 = some r → Go gTr yX1_weigh cX1_weigh 8 none 1 0 0 (fun r9 w9 => r9 = none ∧ w9 = wW r) 0 0 (wW s) 2 [some (.ref 12), some (.int x1), none, some (.int x3), none, none, none, none] []) : ∀ (s : gS) (x1 : Int32) (x3 : Int32) (x4 : Int32) (x5 : Int32) (x6 : Int32) , f_X1_weigh_99 K2 s x1 x3 x4 x5 x6 = some r → Go gTr yX1_weigh cX1_weigh 8 none 1 0 0 (fun r9 w9 => r9 = none ∧ w9 = wW r) 0 0 (wW s) 99 [some (.ref 12), some (.int x1), none, some (.int x3), some (.int x4), some (.int x5), some (.int x6), none] [] := by
  intro s x1 x3 x4 x5 x6 h
  rw [f_X1_weigh_99] at h
  refine go_aload_n (q := 100) dX1_weigh_99 rfl rfl ?_
  refine go_get (v := .ref 16) (q := 103) dX1_weigh_100 fX1_21 (wg_12 _) rfl rfl ?_
  refine go_iload_n (q := 104) dX1_weigh_103 rfl rfl ?_
  refine go_iload (q := 106) dX1_weigh_104 rfl rfl ?_
  obtain ⟨g1, h⟩ := g_guard h
  refine go_iast (w2 := wW (sa s 8 x3.toNatClampNeg x5)) (q := 107) dX1_weigh_106 (wg_16 _) (inB_in g1) (wa_16 _ _ _) rfl ?_
  refine go_aload_n (q := 108) dX1_weigh_107 rfl rfl ?_
  refine go_get (v := .ref 17) (q := 111) dX1_weigh_108 fX1_24 (wg_12 _) rfl rfl ?_
  refine go_iload_n (q := 112) dX1_weigh_111 rfl rfl ?_
  refine go_iload (q := 114) dX1_weigh_112 rfl rfl ?_
  obtain ⟨g2, h⟩ := g_guard h
  refine go_iast (w2 := wW (sa (sa s 8 x3.toNatClampNeg x5) 9 x3.toNatClampNeg x6)) (q := 115) dX1_weigh_114 (wg_17 _) (inB_in g2) (wa_17 _ _ _) rfl ?_
  refine go_aload_n (q := 116) dX1_weigh_115 rfl rfl ?_
  refine go_get (v := .ref 18) (q := 119) dX1_weigh_116 fX1_27 (wg_12 _) rfl rfl ?_
  refine go_iload_n (q := 120) dX1_weigh_119 rfl rfl ?_
  refine go_aload_n (q := 121) dX1_weigh_120 rfl rfl ?_
  refine go_get (v := .ref 18) (q := 124) dX1_weigh_121 fX1_27 (wg_12 _) rfl rfl ?_
  refine go_iload (q := 126) dX1_weigh_124 rfl rfl ?_
  obtain ⟨g3, h⟩ := g_guard h
  refine go_iald (f := s.2 10) (q := 127) dX1_weigh_126 (wg_18 _) (inB_in g3) rfl ?_
  refine go_iconst (v := 1) (q := 128) dX1_weigh_127 (by decide) rfl ?_
  refine go_aload_n (q := 129) dX1_weigh_128 rfl rfl ?_
  refine go_get (v := .ref 13) (q := 132) dX1_weigh_129 fX1_11 (wg_12 _) rfl rfl ?_
  refine go_iload_n (q := 133) dX1_weigh_132 rfl rfl ?_
  obtain ⟨g4, h⟩ := g_guard h
  refine go_iald (f := s.2 5) (q := 134) dX1_weigh_133 (wg_13 _) (inB_in g4) rfl ?_
  refine go_iconst (v := 1) (q := 135) dX1_weigh_134 (by decide) rfl ?_
  refine go_isub (q := 136) dX1_weigh_135 rfl ?_
  refine go_ishl (q := 137) dX1_weigh_136 rfl ?_
  refine go_ior (q := 138) dX1_weigh_137 rfl ?_
  obtain ⟨g5, h⟩ := g_guard h
  refine go_iast (w2 := wW (sa (sa (sa s 8 x3.toNatClampNeg x5) 9 x3.toNatClampNeg x6) 10 x3.toNatClampNeg ((s.2 10 x4.toNatClampNeg) ||| (1 <<< (((s.2 5 x1.toNatClampNeg) - 1) &&& 31))))) (q := 139) dX1_weigh_138 (wg_18 _) (inB_in g5) (wa_18 _ _ _) rfl ?_
  refine go_ls (ls2 := [some (.ref 12), some (.int x1), none, some (.int x3), none, none, none, none]) ⟨rfl, rfl, rfl, trivial⟩ ?_
  exact b_X1_weigh_139 K2 r hK2 (sa (sa (sa s 8 x3.toNatClampNeg x5) 9 x3.toNatClampNeg x6) 10 x3.toNatClampNeg ((s.2 10 x4.toNatClampNeg) ||| (1 <<< (((s.2 5 x1.toNatClampNeg) - 1) &&& 31)))) x1 x3 h
def f_X1_weigh_70 (K2 : gS → Int32 → Int32 → Option gS) (s : gS) (x1 : Int32) (x3 : Int32) (x4 : Int32) (x5 : Int32) (x6 : Int32) (t0 : Int32) : Option gS :=
  if t0 = 0 then
    if inB x3 202 = true then
      if x5 = (s.2 8 x3.toNatClampNeg) then
        if inB x3 202 = true then
          if (s.2 9 x3.toNatClampNeg) < x6 then
            f_X1_weigh_139 K2 s x1 x3
          else
            f_X1_weigh_99 K2 s x1 x3 x4 x5 x6
        else none
      else
        f_X1_weigh_139 K2 s x1 x3
    else none
  else
    f_X1_weigh_99 K2 s x1 x3 x4 x5 x6
set_option maxHeartbeats 4000000 in
set_option maxRecDepth 100000 in
theorem b_X1_weigh_70 (K2 : gS → Int32 → Int32 → Option gS) (r : gS) (hK2 : ∀ (s : gS) (x1 : Int32) (x3 : Int32) , K2 s x1 x3 = some r → Go gTr yX1_weigh cX1_weigh 8 none 1 0 0 (fun r9 w9 => r9 = none ∧ w9 = wW r) 0 0 (wW s) 2 [some (.ref 12), some (.int x1), none, some (.int x3), none, none, none, none] []) : ∀ (s : gS) (x1 : Int32) (x3 : Int32) (x4 : Int32) (x5 : Int32) (x6 : Int32) (t0 : Int32) , f_X1_weigh_70 K2 s x1 x3 x4 x5 x6 t0 = some r → Go gTr yX1_weigh cX1_weigh 8 none 1 0 0 (fun r9 w9 => r9 = none ∧ w9 = wW r) 0 0 (wW s) 70 [some (.ref 12), some (.int x1), none, some (.int x3), some (.int x4), some (.int x5), some (.int x6), none] [.int t0] := by
  intro s x1 x3 x4 x5 x6 t0 h
  rw [f_X1_weigh_70] at h
  refine go_istore (ls2 := [some (.ref 12), some (.int x1), none, some (.int x3), some (.int x4), some (.int x5), some (.int x6), some (.int t0)]) (q := 72) dX1_weigh_70 (by decide) rfl rfl ?_
  refine go_iload (q := 74) dX1_weigh_72 rfl rfl ?_
  refine go_if_ne (tgt := 99) (q := 77) dX1_weigh_74 (by decide) rfl (fun c1 => ?_) (fun c1 => ?_)
  · replace h := g_neg c1 h
    refine go_ls (ls2 := [some (.ref 12), some (.int x1), none, some (.int x3), some (.int x4), some (.int x5), some (.int x6), none]) ⟨rfl, rfl, rfl, rfl, rfl, rfl, trivial⟩ ?_
    exact b_X1_weigh_99 K2 r hK2 s x1 x3 x4 x5 x6 h
  · replace h := g_pos c1 h
    refine go_iload (q := 79) dX1_weigh_77 rfl rfl ?_
    refine go_aload_n (q := 80) dX1_weigh_79 rfl rfl ?_
    refine go_get (v := .ref 16) (q := 83) dX1_weigh_80 fX1_21 (wg_12 _) rfl rfl ?_
    refine go_iload_n (q := 84) dX1_weigh_83 rfl rfl ?_
    obtain ⟨g2, h⟩ := g_guard h
    refine go_iald (f := s.2 8) (q := 85) dX1_weigh_84 (wg_16 _) (inB_in g2) rfl ?_
    refine go_icmp_ne (tgt := 139) (q := 88) dX1_weigh_85 (by decide) rfl (fun c3 => ?_) (fun c3 => ?_)
    · replace h := g_neg c3 h
      refine go_ls (ls2 := [some (.ref 12), some (.int x1), none, some (.int x3), none, none, none, none]) ⟨rfl, rfl, rfl, trivial⟩ ?_
      exact b_X1_weigh_139 K2 r hK2 s x1 x3 h
    · replace h := g_pos c3 h
      refine go_iload (q := 90) dX1_weigh_88 rfl rfl ?_
      refine go_aload_n (q := 91) dX1_weigh_90 rfl rfl ?_
      refine go_get (v := .ref 17) (q := 94) dX1_weigh_91 fX1_24 (wg_12 _) rfl rfl ?_
      refine go_iload_n (q := 95) dX1_weigh_94 rfl rfl ?_
      obtain ⟨g4, h⟩ := g_guard h
      refine go_iald (f := s.2 9) (q := 96) dX1_weigh_95 (wg_17 _) (inB_in g4) rfl ?_
      refine go_icmp_gt (tgt := 139) (q := 99) dX1_weigh_96 (by decide) rfl (fun c5 => ?_) (fun c5 => ?_)
      · replace h := g_pos c5 h
        refine go_ls (ls2 := [some (.ref 12), some (.int x1), none, some (.int x3), none, none, none, none]) ⟨rfl, rfl, rfl, trivial⟩ ?_
        exact b_X1_weigh_139 K2 r hK2 s x1 x3 h
      · replace h := g_neg c5 h
        refine go_ls (ls2 := [some (.ref 12), some (.int x1), none, some (.int x3), some (.int x4), some (.int x5), some (.int x6), none]) ⟨rfl, rfl, rfl, rfl, rfl, rfl, trivial⟩ ?_
        exact b_X1_weigh_99 K2 r hK2 s x1 x3 x4 x5 x6 h
def f_X1_weigh_2 : Nat → gS → Int32 → Int32 → Option gS
  | 0, _, _, _ => none
  | φ + 1, s, x1, x3 =>
    if inB x1 12 = true then
      if x3 < (s.2 7 x1.toNatClampNeg) then
        some s
      else
        if inB x1 12 = true then
          if inB (x3 - (s.2 7 x1.toNatClampNeg)) 202 = true then
            if inB x1 12 = true then
              if inB (x3 - (s.2 7 x1.toNatClampNeg)) 202 = true then
                if inB x1 12 = true then
                  if inB x3 202 = true then
                    if ((s.2 8 (x3 - (s.2 7 x1.toNatClampNeg)).toNatClampNeg) + (s.2 6 x1.toNatClampNeg)) ≤ (s.2 8 x3.toNatClampNeg) then
                      f_X1_weigh_70 (f_X1_weigh_2 φ) s x1 x3 (x3 - (s.2 7 x1.toNatClampNeg)) ((s.2 8 (x3 - (s.2 7 x1.toNatClampNeg)).toNatClampNeg) + (s.2 6 x1.toNatClampNeg)) ((s.2 9 (x3 - (s.2 7 x1.toNatClampNeg)).toNatClampNeg) + (s.2 7 x1.toNatClampNeg)) 0
                    else
                      f_X1_weigh_70 (f_X1_weigh_2 φ) s x1 x3 (x3 - (s.2 7 x1.toNatClampNeg)) ((s.2 8 (x3 - (s.2 7 x1.toNatClampNeg)).toNatClampNeg) + (s.2 6 x1.toNatClampNeg)) ((s.2 9 (x3 - (s.2 7 x1.toNatClampNeg)).toNatClampNeg) + (s.2 7 x1.toNatClampNeg)) 1
                  else none
                else none
              else none
            else none
          else none
        else none
    else none
set_option maxHeartbeats 4000000 in
set_option maxRecDepth 100000 in
theorem b_X1_weigh_2 (r : gS) : ∀ (φ : Nat) (s : gS) (x1 : Int32) (x3 : Int32) , f_X1_weigh_2 φ s x1 x3 = some r → Go gTr yX1_weigh cX1_weigh 8 none 1 0 0 (fun r9 w9 => r9 = none ∧ w9 = wW r) 0 0 (wW s) 2 [some (.ref 12), some (.int x1), none, some (.int x3), none, none, none, none] [] := by
  intro φ
  induction φ with
  | zero =>
    intro s x1 x3 h
    exact absurd h (by intro h0; cases h0)
  | succ φ ih =>
    intro s x1 x3 h
    rw [f_X1_weigh_2] at h
    refine go_iload_n (q := 3) dX1_weigh_2 rfl rfl ?_
    refine go_aload_n (q := 4) dX1_weigh_3 rfl rfl ?_
    refine go_get (v := .ref 15) (q := 7) dX1_weigh_4 fX1_18 (wg_12 _) rfl rfl ?_
    refine go_iload_n (q := 8) dX1_weigh_7 rfl rfl ?_
    obtain ⟨g1, h⟩ := g_guard h
    refine go_iald (f := s.2 7) (q := 9) dX1_weigh_8 (wg_15 _) (inB_in g1) rfl ?_
    refine go_icmp_lt (tgt := 145) (q := 12) dX1_weigh_9 (by decide) rfl (fun c2 => ?_) (fun c2 => ?_)
    · replace h := g_pos c2 h
      cases h
      exact go_ret dX1_weigh_145 rfl (Nat.le_refl _) (Nat.le_refl _) ⟨rfl, rfl⟩
    · replace h := g_neg c2 h
      refine go_iload_n (q := 13) dX1_weigh_12 rfl rfl ?_
      refine go_aload_n (q := 14) dX1_weigh_13 rfl rfl ?_
      refine go_get (v := .ref 15) (q := 17) dX1_weigh_14 fX1_18 (wg_12 _) rfl rfl ?_
      refine go_iload_n (q := 18) dX1_weigh_17 rfl rfl ?_
      obtain ⟨g3, h⟩ := g_guard h
      refine go_iald (f := s.2 7) (q := 19) dX1_weigh_18 (wg_15 _) (inB_in g3) rfl ?_
      refine go_isub (q := 20) dX1_weigh_19 rfl ?_
      refine go_istore (ls2 := [some (.ref 12), some (.int x1), none, some (.int x3), some (.int (x3 - (s.2 7 x1.toNatClampNeg))), none, none, none]) (q := 22) dX1_weigh_20 (by decide) rfl rfl ?_
      refine go_aload_n (q := 23) dX1_weigh_22 rfl rfl ?_
      refine go_get (v := .ref 16) (q := 26) dX1_weigh_23 fX1_21 (wg_12 _) rfl rfl ?_
      refine go_iload (q := 28) dX1_weigh_26 rfl rfl ?_
      obtain ⟨g4, h⟩ := g_guard h
      refine go_iald (f := s.2 8) (q := 29) dX1_weigh_28 (wg_16 _) (inB_in g4) rfl ?_
      refine go_aload_n (q := 30) dX1_weigh_29 rfl rfl ?_
      refine go_get (v := .ref 14) (q := 33) dX1_weigh_30 fX1_15 (wg_12 _) rfl rfl ?_
      refine go_iload_n (q := 34) dX1_weigh_33 rfl rfl ?_
      obtain ⟨g5, h⟩ := g_guard h
      refine go_iald (f := s.2 6) (q := 35) dX1_weigh_34 (wg_14 _) (inB_in g5) rfl ?_
      refine go_iadd (q := 36) dX1_weigh_35 rfl ?_
      refine go_istore (ls2 := [some (.ref 12), some (.int x1), none, some (.int x3), some (.int (x3 - (s.2 7 x1.toNatClampNeg))), some (.int ((s.2 8 (x3 - (s.2 7 x1.toNatClampNeg)).toNatClampNeg) + (s.2 6 x1.toNatClampNeg))), none, none]) (q := 38) dX1_weigh_36 (by decide) rfl rfl ?_
      refine go_aload_n (q := 39) dX1_weigh_38 rfl rfl ?_
      refine go_get (v := .ref 17) (q := 42) dX1_weigh_39 fX1_24 (wg_12 _) rfl rfl ?_
      refine go_iload (q := 44) dX1_weigh_42 rfl rfl ?_
      obtain ⟨g6, h⟩ := g_guard h
      refine go_iald (f := s.2 9) (q := 45) dX1_weigh_44 (wg_17 _) (inB_in g6) rfl ?_
      refine go_aload_n (q := 46) dX1_weigh_45 rfl rfl ?_
      refine go_get (v := .ref 15) (q := 49) dX1_weigh_46 fX1_18 (wg_12 _) rfl rfl ?_
      refine go_iload_n (q := 50) dX1_weigh_49 rfl rfl ?_
      obtain ⟨g7, h⟩ := g_guard h
      refine go_iald (f := s.2 7) (q := 51) dX1_weigh_50 (wg_15 _) (inB_in g7) rfl ?_
      refine go_iadd (q := 52) dX1_weigh_51 rfl ?_
      refine go_istore (ls2 := [some (.ref 12), some (.int x1), none, some (.int x3), some (.int (x3 - (s.2 7 x1.toNatClampNeg))), some (.int ((s.2 8 (x3 - (s.2 7 x1.toNatClampNeg)).toNatClampNeg) + (s.2 6 x1.toNatClampNeg))), some (.int ((s.2 9 (x3 - (s.2 7 x1.toNatClampNeg)).toNatClampNeg) + (s.2 7 x1.toNatClampNeg))), none]) (q := 54) dX1_weigh_52 (by decide) rfl rfl ?_
      refine go_iload (q := 56) dX1_weigh_54 rfl rfl ?_
      refine go_aload_n (q := 57) dX1_weigh_56 rfl rfl ?_
      refine go_get (v := .ref 16) (q := 60) dX1_weigh_57 fX1_21 (wg_12 _) rfl rfl ?_
      refine go_iload_n (q := 61) dX1_weigh_60 rfl rfl ?_
      obtain ⟨g8, h⟩ := g_guard h
      refine go_iald (f := s.2 8) (q := 62) dX1_weigh_61 (wg_16 _) (inB_in g8) rfl ?_
      refine go_icmp_le (tgt := 69) (q := 65) dX1_weigh_62 (by decide) rfl (fun c9 => ?_) (fun c9 => ?_)
      · replace h := g_pos c9 h
        refine go_iconst (v := 0) (q := 70) dX1_weigh_69 (by decide) rfl ?_
        refine go_ls (ls2 := [some (.ref 12), some (.int x1), none, some (.int x3), some (.int (x3 - (s.2 7 x1.toNatClampNeg))), some (.int ((s.2 8 (x3 - (s.2 7 x1.toNatClampNeg)).toNatClampNeg) + (s.2 6 x1.toNatClampNeg))), some (.int ((s.2 9 (x3 - (s.2 7 x1.toNatClampNeg)).toNatClampNeg) + (s.2 7 x1.toNatClampNeg))), none]) ⟨rfl, rfl, rfl, rfl, rfl, rfl, trivial⟩ ?_
        exact b_X1_weigh_70 (f_X1_weigh_2 φ) r (fun s x1 x3 h => ih s x1 x3 h) s x1 x3 (x3 - (s.2 7 x1.toNatClampNeg)) ((s.2 8 (x3 - (s.2 7 x1.toNatClampNeg)).toNatClampNeg) + (s.2 6 x1.toNatClampNeg)) ((s.2 9 (x3 - (s.2 7 x1.toNatClampNeg)).toNatClampNeg) + (s.2 7 x1.toNatClampNeg)) 0 h
      · replace h := g_neg c9 h
        refine go_iconst (v := 1) (q := 66) dX1_weigh_65 (by decide) rfl ?_
        refine go_goto (tgt := 70) dX1_weigh_66 (by decide) ?_
        refine go_ls (ls2 := [some (.ref 12), some (.int x1), none, some (.int x3), some (.int (x3 - (s.2 7 x1.toNatClampNeg))), some (.int ((s.2 8 (x3 - (s.2 7 x1.toNatClampNeg)).toNatClampNeg) + (s.2 6 x1.toNatClampNeg))), some (.int ((s.2 9 (x3 - (s.2 7 x1.toNatClampNeg)).toNatClampNeg) + (s.2 7 x1.toNatClampNeg))), none]) ⟨rfl, rfl, rfl, rfl, rfl, rfl, trivial⟩ ?_
        exact b_X1_weigh_70 (f_X1_weigh_2 φ) r (fun s x1 x3 h => ih s x1 x3 h) s x1 x3 (x3 - (s.2 7 x1.toNatClampNeg)) ((s.2 8 (x3 - (s.2 7 x1.toNatClampNeg)).toNatClampNeg) + (s.2 6 x1.toNatClampNeg)) ((s.2 9 (x3 - (s.2 7 x1.toNatClampNeg)).toNatClampNeg) + (s.2 7 x1.toNatClampNeg)) 1 h
def f_X1_weigh (s : gS) (x1 : Int32) (x2 : Int32) : Option gS :=
  f_X1_weigh_2 gφ s x1 x2
set_option maxHeartbeats 4000000 in
set_option maxRecDepth 100000 in
theorem b_X1_weigh (r : gS) : ∀ (s : gS) (x1 : Int32) (x2 : Int32) , f_X1_weigh s x1 x2 = some r → Go gTr yX1_weigh cX1_weigh 8 none 1 0 0 (fun r9 w9 => r9 = none ∧ w9 = wW r) 0 0 (wW s) 0 [some (.ref 12), some (.int x1), some (.int x2), none, none, none, none, none] [] := by
  intro s x1 x2 h
  rw [f_X1_weigh] at h
  refine go_iload_n (q := 1) dX1_weigh_0 rfl rfl ?_
  refine go_istore_n (ls2 := [some (.ref 12), some (.int x1), some (.int x2), some (.int x2), none, none, none, none]) (q := 2) dX1_weigh_1 (by decide) rfl rfl ?_
  refine go_ls (ls2 := [some (.ref 12), some (.int x1), none, some (.int x2), none, none, none, none]) ⟨rfl, rfl, rfl, trivial⟩ ?_
  exact b_X1_weigh_2 r gφ s x1 x2 h
theorem t_X1_weigh (s : gS) (x1 : Int32) (x2 : Int32) (r : gS) (h : f_X1_weigh s x1 x2 = some r) : Cal 1 mX1_weigh [.ref 12, .int x1, .int x2] (wW s) 0 0 none (wW r) := Cal.of (by decide) (g_cats rfl) (Nat.le_of_ble_eq_true rfl) (b_X1_weigh r s x1 x2 h)
def f_X1_choose_45 : Nat → gS → Int32 → Int32 → Option (Int32 × gS)
  | 0, _, _, _ => none
  | φ + 1, s, x2, x3 =>
    if x3 < 0 then
      if x2 < 0 then
        some (0, s)
      else
        if inB x2 202 = true then
          some (s.2 10 x2.toNatClampNeg, s)
        else none
    else
      (f_X1_weigh s x3 x2).bind fun r4 =>
      f_X1_choose_45 φ r4 x2 (x3 + (-1 : Int32))
set_option maxHeartbeats 4000000 in
set_option maxRecDepth 100000 in
theorem b_X1_choose_45 (r : Int32 × gS) : ∀ (φ : Nat) (s : gS) (x2 : Int32) (x3 : Int32) , f_X1_choose_45 φ s x2 x3 = some r → Go gTr yX1_choose cX1_choose 4 (some .int) 2 0 0 (fun r9 w9 => r9 = some (.int r.1) ∧ w9 = wW r.2) 0 0 (wW s) 45 [some (.ref 12), none, some (.int x2), some (.int x3)] [] := by
  intro φ
  induction φ with
  | zero =>
    intro s x2 x3 h
    exact absurd h (by intro h0; cases h0)
  | succ φ ih =>
    intro s x2 x3 h
    rw [f_X1_choose_45] at h
    refine go_iload_n (q := 46) dX1_choose_45 rfl rfl ?_
    refine go_if_lt (tgt := 61) (q := 49) dX1_choose_46 (by decide) rfl (fun c1 => ?_) (fun c1 => ?_)
    · replace h := g_pos c1 h
      refine go_iload_n (q := 62) dX1_choose_61 rfl rfl ?_
      refine go_if_lt (tgt := 74) (q := 65) dX1_choose_62 (by decide) rfl (fun c2 => ?_) (fun c2 => ?_)
      · replace h := g_pos c2 h
        refine go_iconst (v := 0) (q := 75) dX1_choose_74 (by decide) rfl ?_
        cases h
        exact go_iret dX1_choose_75 rfl rfl (Nat.le_refl _) (Nat.le_refl _) ⟨rfl, rfl⟩
      · replace h := g_neg c2 h
        refine go_aload_n (q := 66) dX1_choose_65 rfl rfl ?_
        refine go_get (v := .ref 18) (q := 69) dX1_choose_66 fX1_27 (wg_12 _) rfl rfl ?_
        refine go_iload_n (q := 70) dX1_choose_69 rfl rfl ?_
        obtain ⟨g3, h⟩ := g_guard h
        refine go_iald (f := s.2 10) (q := 71) dX1_choose_70 (wg_18 _) (inB_in g3) rfl ?_
        refine go_goto (tgt := 75) dX1_choose_71 (by decide) ?_
        cases h
        exact go_iret dX1_choose_75 rfl rfl (Nat.le_refl _) (Nat.le_refl _) ⟨rfl, rfl⟩
    · replace h := g_neg c1 h
      refine go_aload_n (q := 50) dX1_choose_49 rfl rfl ?_
      refine go_iload_n (q := 51) dX1_choose_50 rfl rfl ?_
      refine go_iload_n (q := 52) dX1_choose_51 rfl rfl ?_
      obtain ⟨r4, e5, h⟩ := g_bind h
      refine go_callV0 (q := 55) (as := [.int x3, .int x2]) (rest := []) (st2 := []) (w2 := wW r4) dX1_choose_52 cX1_46 (t_X1_weigh s x3 x2 _ e5) (wg_12 _) rfl rfl rfl (Nat.le_of_ble_eq_true rfl) (by decide) ⟨Nat.le_refl _, Nat.le_refl _⟩ rfl rfl ?_
      refine go_iinc (v := x3 + (-1 : Int32)) (ls2 := [some (.ref 12), none, some (.int x2), some (.int (x3 + (-1 : Int32)))]) (q := 58) dX1_choose_55 (by decide) rfl rfl rfl rfl ?_
      refine go_goto (tgt := 45) dX1_choose_58 (by decide) ?_
      refine go_ls (ls2 := [some (.ref 12), none, some (.int x2), some (.int (x3 + (-1 : Int32)))]) ⟨rfl, rfl, rfl, trivial⟩ ?_
      exact ih r4 x2 (x3 + (-1 : Int32)) h
def f_X1_choose (s : gS) (x1 : Int32) : Option (Int32 × gS) :=
  f_X1_choose_45 gφ (sf (sf (sf s 8 202 0) 9 202 0) 10 202 0) (if (202 - 1) < (x1 + 1) then (202 - 1) else (x1 + 1)) ((s.1 11) - 1)
set_option maxHeartbeats 4000000 in
set_option maxRecDepth 100000 in
theorem b_X1_choose (r : Int32 × gS) : ∀ (s : gS) (x1 : Int32) , f_X1_choose s x1 = some r → Go gTr yX1_choose cX1_choose 4 (some .int) 2 0 0 (fun r9 w9 => r9 = some (.int r.1) ∧ w9 = wW r.2) 0 0 (wW s) 0 [some (.ref 12), some (.int x1), none, none] [] := by
  intro s x1 h
  rw [f_X1_choose] at h
  refine go_aload_n (q := 1) dX1_choose_0 rfl rfl ?_
  refine go_get (v := .ref 16) (q := 4) dX1_choose_1 fX1_21 (wg_12 _) rfl rfl ?_
  refine go_iconst (v := 0) (q := 5) dX1_choose_4 (by decide) rfl ?_
  refine go_callS0 (q := 8) (as := [.ref 16, .int 0]) (rest := []) (st2 := []) (w2 := wW (sf s 8 202 0)) dX1_choose_5 cX1_34 (fill_16 _ _) rfl rfl (Nat.le_of_ble_eq_true rfl) (by decide) ⟨Nat.le_refl _, Nat.le_refl _⟩ rfl rfl ?_
  refine go_aload_n (q := 9) dX1_choose_8 rfl rfl ?_
  refine go_get (v := .ref 17) (q := 12) dX1_choose_9 fX1_24 (wg_12 _) rfl rfl ?_
  refine go_iconst (v := 0) (q := 13) dX1_choose_12 (by decide) rfl ?_
  refine go_callS0 (q := 16) (as := [.ref 17, .int 0]) (rest := []) (st2 := []) (w2 := wW (sf (sf s 8 202 0) 9 202 0)) dX1_choose_13 cX1_34 (fill_17 _ _) rfl rfl (Nat.le_of_ble_eq_true rfl) (by decide) ⟨Nat.le_refl _, Nat.le_refl _⟩ rfl rfl ?_
  refine go_aload_n (q := 17) dX1_choose_16 rfl rfl ?_
  refine go_get (v := .ref 18) (q := 20) dX1_choose_17 fX1_27 (wg_12 _) rfl rfl ?_
  refine go_iconst (v := 0) (q := 21) dX1_choose_20 (by decide) rfl ?_
  refine go_callS0 (q := 24) (as := [.ref 18, .int 0]) (rest := []) (st2 := []) (w2 := wW (sf (sf (sf s 8 202 0) 9 202 0) 10 202 0)) dX1_choose_21 cX1_34 (fill_18 _ _) rfl rfl (Nat.le_of_ble_eq_true rfl) (by decide) ⟨Nat.le_refl _, Nat.le_refl _⟩ rfl rfl ?_
  refine go_iload_n (q := 25) dX1_choose_24 rfl rfl ?_
  refine go_iconst (v := 1) (q := 26) dX1_choose_25 (by decide) rfl ?_
  refine go_iadd (q := 27) dX1_choose_26 rfl ?_
  refine go_aload_n (q := 28) dX1_choose_27 rfl rfl ?_
  refine go_get (v := .ref 18) (q := 31) dX1_choose_28 fX1_27 (wg_12 _) rfl rfl ?_
  refine go_alen (v := 202) (q := 32) dX1_choose_31 (by decide) (wg_18 _) rfl rfl ?_
  refine go_iconst (v := 1) (q := 33) dX1_choose_32 (by decide) rfl ?_
  refine go_isub (q := 34) dX1_choose_33 rfl ?_
  refine go_mmin (q := 37) dX1_choose_34 cmX1_40 (by decide) (Nat.le_of_ble_eq_true rfl) ⟨Nat.le_refl _, Nat.le_refl _⟩ rfl ?_
  refine go_istore_n (ls2 := [some (.ref 12), some (.int x1), some (.int (if (202 - 1) < (x1 + 1) then (202 - 1) else (x1 + 1))), none]) (q := 38) dX1_choose_37 (by decide) rfl rfl ?_
  refine go_aload_n (q := 39) dX1_choose_38 rfl rfl ?_
  refine go_get (v := .int (s.1 11)) (q := 42) dX1_choose_39 fX1_30 (wg_12 _) rfl rfl ?_
  refine go_iconst (v := 1) (q := 43) dX1_choose_42 (by decide) rfl ?_
  refine go_isub (q := 44) dX1_choose_43 rfl ?_
  refine go_istore_n (ls2 := [some (.ref 12), some (.int x1), some (.int (if (202 - 1) < (x1 + 1) then (202 - 1) else (x1 + 1))), some (.int ((s.1 11) - 1))]) (q := 45) dX1_choose_44 (by decide) rfl rfl ?_
  refine go_ls (ls2 := [some (.ref 12), none, some (.int (if (202 - 1) < (x1 + 1) then (202 - 1) else (x1 + 1))), some (.int ((s.1 11) - 1))]) ⟨rfl, rfl, rfl, trivial⟩ ?_
  exact b_X1_choose_45 r gφ (sf (sf (sf s 8 202 0) 9 202 0) 10 202 0) (if (202 - 1) < (x1 + 1) then (202 - 1) else (x1 + 1)) ((s.1 11) - 1) h
theorem t_X1_choose (s : gS) (x1 : Int32) (r : Int32 × gS) (h : f_X1_choose s x1 = some r) : Cal 2 mX1_choose [.ref 12, .int x1] (wW s) 0 0 (some (.int r.1)) (wW r.2) := Cal.of (by decide) (g_cats rfl) (Nat.le_of_ble_eq_true rfl) (b_X1_choose r s x1 h)
