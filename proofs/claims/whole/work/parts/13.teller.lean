def f_X8_game (s : gS) (x1 : Int32) (x2 : Int32) (x3 : Int32) (x4 : Int32) (x5 : Int32) : Option (Int32 × gS) :=
  (f_X0_lay s x1 x2 x3 x4 x5).bind fun r1 =>
  if r1.1 = 0 then
    some (0, r1.2)
  else
    (f_X3_clear r1.2).bind fun r4 =>
    (f_X2_forgetAll r4).bind fun r6 =>
    some (1, r6)
set_option maxHeartbeats 4000000 in
set_option maxRecDepth 100000 in
theorem b_X8_game (r : Int32 × gS) : ∀ (s : gS) (x1 : Int32) (x2 : Int32) (x3 : Int32) (x4 : Int32) (x5 : Int32) , f_X8_game s x1 x2 x3 x4 x5 = some r → Go gTr yX8_game cX8_game 6 (some .boolean) 3 0 0 (fun r9 w9 => r9 = some (.int r.1) ∧ w9 = wW r.2) 0 0 (wW s) 0 [some (.ref 0), some (.int x1), some (.int x2), some (.int x3), some (.int x4), some (.int x5)] [] := by
  intro s x1 x2 x3 x4 x5 h
  rw [f_X8_game] at h
  refine go_aload_n (q := 1) dX8_game_0 rfl rfl ?_
  refine go_get (v := .ref 1) (q := 4) dX8_game_1 fX8_10 (wg_0 _) rfl rfl ?_
  refine go_iload_n (q := 5) dX8_game_4 rfl rfl ?_
  refine go_iload_n (q := 6) dX8_game_5 rfl rfl ?_
  refine go_iload_n (q := 7) dX8_game_6 rfl rfl ?_
  refine go_iload (q := 9) dX8_game_7 rfl rfl ?_
  refine go_iload (q := 11) dX8_game_9 rfl rfl ?_
  obtain ⟨r1, e2, h⟩ := g_bind h
  refine go_callV0 (q := 14) (as := [.int x1, .int x2, .int x3, .int x4, .int x5]) (rest := []) (st2 := [.int r1.1]) (w2 := wW r1.2) dX8_game_11 cX8_71 (t_X0_lay s x1 x2 x3 x4 x5 _ e2) (wg_1 _) rfl rfl rfl (Nat.le_of_ble_eq_true rfl) (by decide) ⟨Nat.le_refl _, Nat.le_refl _⟩ rfl rfl ?_
  refine go_if_ne (tgt := 19) (q := 17) dX8_game_14 (by decide) rfl (fun c3 => ?_) (fun c3 => ?_)
  · replace h := g_neg c3 h
    refine go_aload_n (q := 20) dX8_game_19 rfl rfl ?_
    refine go_get (v := .ref 2) (q := 23) dX8_game_20 fX8_21 (wg_0 _) rfl rfl ?_
    obtain ⟨r4, e5, h⟩ := g_bind h
    refine go_callV0 (q := 26) (as := []) (rest := []) (st2 := []) (w2 := wW r4) dX8_game_23 cX8_75 (t_X3_clear r1.2 _ e5) (wg_2 _) rfl rfl rfl (Nat.le_of_ble_eq_true rfl) (by decide) ⟨Nat.le_refl _, Nat.le_refl _⟩ rfl rfl ?_
    refine go_aload_n (q := 27) dX8_game_26 rfl rfl ?_
    refine go_get (v := .ref 5) (q := 30) dX8_game_27 fX8_37 (wg_0 _) rfl rfl ?_
    obtain ⟨r6, e7, h⟩ := g_bind h
    refine go_callV0 (q := 33) (as := []) (rest := []) (st2 := []) (w2 := wW r6) dX8_game_30 cX8_78 (t_X2_forgetAll r4 _ e7) (wg_5 _) rfl rfl rfl (Nat.le_of_ble_eq_true rfl) (by decide) ⟨Nat.le_refl _, Nat.le_refl _⟩ rfl rfl ?_
    refine go_iconst (v := 1) (q := 34) dX8_game_33 (by decide) rfl ?_
    cases h
    exact go_iret dX8_game_34 rfl rfl (Nat.le_refl _) (Nat.le_refl _) ⟨rfl, rfl⟩
  · replace h := g_pos c3 h
    refine go_iconst (v := 0) (q := 18) dX8_game_17 (by decide) rfl ?_
    cases h
    exact go_iret dX8_game_18 rfl rfl (Nat.le_refl _) (Nat.le_refl _) ⟨rfl, rfl⟩
theorem t_X8_game (s : gS) (x1 : Int32) (x2 : Int32) (x3 : Int32) (x4 : Int32) (x5 : Int32) (r : Int32 × gS) (h : f_X8_game s x1 x2 x3 x4 x5 = some r) : Cal 3 mX8_game [.ref 0, .int x1, .int x2, .int x3, .int x4, .int x5] (wW s) 0 0 (some (.int r.1)) (wW r.2) := Cal.of (by decide) (g_cats rfl) (Nat.le_of_ble_eq_true rfl) (b_X8_game r s x1 x2 x3 x4 x5 h)
def f_X8_setStone (s : gS) (x1 : Int32) : Option (Int32 × gS) :=
  (f_X3_addMove s x1).bind fun r1 =>
  if r1.1 = 0 then
    some (0, r1.2)
  else
    (f_X2_forgetMove r1.2 (r1.2.1 7)).bind fun r4 =>
    some (1, r4)
set_option maxHeartbeats 4000000 in
set_option maxRecDepth 100000 in
theorem b_X8_setStone (r : Int32 × gS) : ∀ (s : gS) (x1 : Int32) , f_X8_setStone s x1 = some r → Go gTr yX8_setStone cX8_setStone 2 (some .boolean) 4 0 0 (fun r9 w9 => r9 = some (.int r.1) ∧ w9 = wW r.2) 0 0 (wW s) 0 [some (.ref 0), some (.int x1)] [] := by
  intro s x1 h
  rw [f_X8_setStone] at h
  refine go_aload_n (q := 1) dX8_setStone_0 rfl rfl ?_
  refine go_get (v := .ref 2) (q := 4) dX8_setStone_1 fX8_21 (wg_0 _) rfl rfl ?_
  refine go_iload_n (q := 5) dX8_setStone_4 rfl rfl ?_
  obtain ⟨r1, e2, h⟩ := g_bind h
  refine go_callV0 (q := 8) (as := [.int x1]) (rest := []) (st2 := [.int r1.1]) (w2 := wW r1.2) dX8_setStone_5 cX8_242 (t_X3_addMove s x1 _ e2) (wg_2 _) rfl rfl rfl (Nat.le_of_ble_eq_true rfl) (by decide) ⟨Nat.le_refl _, Nat.le_refl _⟩ rfl rfl ?_
  refine go_if_ne (tgt := 13) (q := 11) dX8_setStone_8 (by decide) rfl (fun c3 => ?_) (fun c3 => ?_)
  · replace h := g_neg c3 h
    refine go_aload_n (q := 14) dX8_setStone_13 rfl rfl ?_
    refine go_get (v := .ref 5) (q := 17) dX8_setStone_14 fX8_37 (wg_0 _) rfl rfl ?_
    refine go_aload_n (q := 18) dX8_setStone_17 rfl rfl ?_
    refine go_get (v := .ref 2) (q := 21) dX8_setStone_18 fX8_21 (wg_0 _) rfl rfl ?_
    refine go_get (v := .int (r1.2.1 7)) (q := 24) dX8_setStone_21 fX8_89 (wg_2 _) rfl rfl ?_
    obtain ⟨r4, e5, h⟩ := g_bind h
    refine go_callV0 (q := 27) (as := [.int (r1.2.1 7)]) (rest := []) (st2 := []) (w2 := wW r4) dX8_setStone_24 cX8_245 (t_X2_forgetMove r1.2 (r1.2.1 7) _ e5) (wg_5 _) rfl rfl rfl (Nat.le_of_ble_eq_true rfl) (by decide) ⟨Nat.le_refl _, Nat.le_refl _⟩ rfl rfl ?_
    refine go_iconst (v := 1) (q := 28) dX8_setStone_27 (by decide) rfl ?_
    cases h
    exact go_iret dX8_setStone_28 rfl rfl (Nat.le_refl _) (Nat.le_refl _) ⟨rfl, rfl⟩
  · replace h := g_pos c3 h
    refine go_iconst (v := 0) (q := 12) dX8_setStone_11 (by decide) rfl ?_
    cases h
    exact go_iret dX8_setStone_12 rfl rfl (Nat.le_refl _) (Nat.le_refl _) ⟨rfl, rfl⟩
theorem t_X8_setStone (s : gS) (x1 : Int32) (r : Int32 × gS) (h : f_X8_setStone s x1 = some r) : Cal 4 mX8_setStone [.ref 0, .int x1] (wW s) 0 0 (some (.int r.1)) (wW r.2) := Cal.of (by decide) (g_cats rfl) (Nat.le_of_ble_eq_true rfl) (b_X8_setStone r s x1 h)
def f_X8_play (s : gS) (x1 : Int32) : Option (Int32 × gS) :=
  (f_X0_bitOf s x1).bind fun r1 =>
  (f_X8_setStone s r1).bind fun r3 =>
  if r3.1 = 0 then
    some ((-1 : Int32), r3.2)
  else
    some (r3.2.1 7, r3.2)
set_option maxHeartbeats 4000000 in
set_option maxRecDepth 100000 in
theorem b_X8_play (r : Int32 × gS) : ∀ (s : gS) (x1 : Int32) , f_X8_play s x1 = some r → Go gTr yX8_play cX8_play 2 (some .int) 5 0 0 (fun r9 w9 => r9 = some (.int r.1) ∧ w9 = wW r.2) 0 0 (wW s) 0 [some (.ref 0), some (.int x1)] [] := by
  intro s x1 h
  rw [f_X8_play] at h
  refine go_aload_n (q := 1) dX8_play_0 rfl rfl ?_
  refine go_aload_n (q := 2) dX8_play_1 rfl rfl ?_
  refine go_get (v := .ref 1) (q := 5) dX8_play_2 fX8_10 (wg_0 _) rfl rfl ?_
  refine go_iload_n (q := 6) dX8_play_5 rfl rfl ?_
  obtain ⟨r1, e2, h⟩ := g_bind h
  refine go_callV0 (q := 9) (as := [.int x1]) (rest := [.ref 0]) (st2 := [.int r1, .ref 0]) (w2 := wW s) dX8_play_6 cX8_81 (t_X0_bitOf s x1 _ e2) (wg_1 _) rfl rfl rfl (Nat.le_of_ble_eq_true rfl) (by decide) ⟨Nat.le_refl _, Nat.le_refl _⟩ rfl rfl ?_
  obtain ⟨r3, e4, h⟩ := g_bind h
  refine go_callV0 (q := 12) (as := [.int r1]) (rest := []) (st2 := [.int r3.1]) (w2 := wW r3.2) dX8_play_9 cX8_85 (t_X8_setStone s r1 _ e4) (wg_0 _) rfl rfl rfl (Nat.le_of_ble_eq_true rfl) (by decide) ⟨Nat.le_refl _, Nat.le_refl _⟩ rfl rfl ?_
  refine go_if_eq (tgt := 25) (q := 15) dX8_play_12 (by decide) rfl (fun c5 => ?_) (fun c5 => ?_)
  · replace h := g_pos c5 h
    refine go_iconst (v := (-1 : Int32)) (q := 26) dX8_play_25 (by decide) rfl ?_
    cases h
    exact go_iret dX8_play_26 rfl rfl (Nat.le_refl _) (Nat.le_refl _) ⟨rfl, rfl⟩
  · replace h := g_neg c5 h
    refine go_aload_n (q := 16) dX8_play_15 rfl rfl ?_
    refine go_get (v := .ref 2) (q := 19) dX8_play_16 fX8_21 (wg_0 _) rfl rfl ?_
    refine go_get (v := .int (r3.2.1 7)) (q := 22) dX8_play_19 fX8_89 (wg_2 _) rfl rfl ?_
    refine go_goto (tgt := 26) dX8_play_22 (by decide) ?_
    cases h
    exact go_iret dX8_play_26 rfl rfl (Nat.le_refl _) (Nat.le_refl _) ⟨rfl, rfl⟩
theorem t_X8_play (s : gS) (x1 : Int32) (r : Int32 × gS) (h : f_X8_play s x1 = some r) : Cal 5 mX8_play [.ref 0, .int x1] (wW s) 0 0 (some (.int r.1)) (wW r.2) := Cal.of (by decide) (g_cats rfl) (Nat.le_of_ble_eq_true rfl) (b_X8_play r s x1 h)
def f_X8_back (s : gS) : Option (Int32 × gS) :=
  (f_X3_takeBack s).bind fun r1 =>
  if r1.1 = 0 then
    some ((-1 : Int32), r1.2)
  else
    some (r1.2.1 7, r1.2)
set_option maxHeartbeats 4000000 in
set_option maxRecDepth 100000 in
theorem b_X8_back (r : Int32 × gS) : ∀ (s : gS) , f_X8_back s = some r → Go gTr yX8_back cX8_back 1 (some .int) 2 0 0 (fun r9 w9 => r9 = some (.int r.1) ∧ w9 = wW r.2) 0 0 (wW s) 0 [some (.ref 0)] [] := by
  intro s h
  rw [f_X8_back] at h
  refine go_aload_n (q := 1) dX8_back_0 rfl rfl ?_
  refine go_get (v := .ref 2) (q := 4) dX8_back_1 fX8_21 (wg_0 _) rfl rfl ?_
  obtain ⟨r1, e2, h⟩ := g_bind h
  refine go_callV0 (q := 7) (as := []) (rest := []) (st2 := [.int r1.1]) (w2 := wW r1.2) dX8_back_4 cX8_93 (t_X3_takeBack s _ e2) (wg_2 _) rfl rfl rfl (Nat.le_of_ble_eq_true rfl) (by decide) ⟨Nat.le_refl _, Nat.le_refl _⟩ rfl rfl ?_
  refine go_if_eq (tgt := 20) (q := 10) dX8_back_7 (by decide) rfl (fun c3 => ?_) (fun c3 => ?_)
  · replace h := g_pos c3 h
    refine go_iconst (v := (-1 : Int32)) (q := 21) dX8_back_20 (by decide) rfl ?_
    cases h
    exact go_iret dX8_back_21 rfl rfl (Nat.le_refl _) (Nat.le_refl _) ⟨rfl, rfl⟩
  · replace h := g_neg c3 h
    refine go_aload_n (q := 11) dX8_back_10 rfl rfl ?_
    refine go_get (v := .ref 2) (q := 14) dX8_back_11 fX8_21 (wg_0 _) rfl rfl ?_
    refine go_get (v := .int (r1.2.1 7)) (q := 17) dX8_back_14 fX8_89 (wg_2 _) rfl rfl ?_
    refine go_goto (tgt := 21) dX8_back_17 (by decide) ?_
    cases h
    exact go_iret dX8_back_21 rfl rfl (Nat.le_refl _) (Nat.le_refl _) ⟨rfl, rfl⟩
theorem t_X8_back (s : gS) (r : Int32 × gS) (h : f_X8_back s = some r) : Cal 2 mX8_back [.ref 0] (wW s) 0 0 (some (.int r.1)) (wW r.2) := Cal.of (by decide) (g_cats rfl) (Nat.le_of_ble_eq_true rfl) (b_X8_back r s h)
def f_X8_depth (s : gS) (x1 : Int32) : Option (Int32 × gS) :=
  (f_X2_tellDepth s x1).bind fun r1 =>
  if isZ r1.1 = true then
    some (r1.1, r1.2)
  else none
set_option maxHeartbeats 4000000 in
set_option maxRecDepth 100000 in
theorem b_X8_depth (r : Int32 × gS) : ∀ (s : gS) (x1 : Int32) , f_X8_depth s x1 = some r → Go gTr yX8_depth cX8_depth 2 (some .boolean) 2 0 0 (fun r9 w9 => r9 = some (.int r.1) ∧ w9 = wW r.2) 0 0 (wW s) 0 [some (.ref 0), some (.int x1)] [] := by
  intro s x1 h
  rw [f_X8_depth] at h
  refine go_aload_n (q := 1) dX8_depth_0 rfl rfl ?_
  refine go_get (v := .ref 5) (q := 4) dX8_depth_1 fX8_37 (wg_0 _) rfl rfl ?_
  refine go_iload_n (q := 5) dX8_depth_4 rfl rfl ?_
  obtain ⟨r1, e2, h⟩ := g_bind h
  refine go_callV0 (q := 8) (as := [.int x1]) (rest := []) (st2 := [.int r1.1]) (w2 := wW r1.2) dX8_depth_5 cX8_97 (t_X2_tellDepth s x1 _ e2) (wg_5 _) rfl rfl rfl (Nat.le_of_ble_eq_true rfl) (by decide) ⟨Nat.le_refl _, Nat.le_refl _⟩ rfl rfl ?_
  obtain ⟨g3, h⟩ := g_guard h
  cases h
  exact go_iret dX8_depth_8 rfl (isZ_nar g3) (Nat.le_refl _) (Nat.le_refl _) ⟨rfl, rfl⟩
theorem t_X8_depth (s : gS) (x1 : Int32) (r : Int32 × gS) (h : f_X8_depth s x1 = some r) : Cal 2 mX8_depth [.ref 0, .int x1] (wW s) 0 0 (some (.int r.1)) (wW r.2) := Cal.of (by decide) (g_cats rfl) (Nat.le_of_ble_eq_true rfl) (b_X8_depth r s x1 h)
def f_X8_weight (s : gS) (x1 : Int32) (x2 : Int32) : Option (Int32 × gS) :=
  (f_X2_tellWeight s x1 x2).bind fun r1 =>
  if isZ r1.1 = true then
    some (r1.1, r1.2)
  else none
set_option maxHeartbeats 4000000 in
set_option maxRecDepth 100000 in
theorem b_X8_weight (r : Int32 × gS) : ∀ (s : gS) (x1 : Int32) (x2 : Int32) , f_X8_weight s x1 x2 = some r → Go gTr yX8_weight cX8_weight 3 (some .boolean) 2 0 0 (fun r9 w9 => r9 = some (.int r.1) ∧ w9 = wW r.2) 0 0 (wW s) 0 [some (.ref 0), some (.int x1), some (.int x2)] [] := by
  intro s x1 x2 h
  rw [f_X8_weight] at h
  refine go_aload_n (q := 1) dX8_weight_0 rfl rfl ?_
  refine go_get (v := .ref 5) (q := 4) dX8_weight_1 fX8_37 (wg_0 _) rfl rfl ?_
  refine go_iload_n (q := 5) dX8_weight_4 rfl rfl ?_
  refine go_iload_n (q := 6) dX8_weight_5 rfl rfl ?_
  obtain ⟨r1, e2, h⟩ := g_bind h
  refine go_callV0 (q := 9) (as := [.int x1, .int x2]) (rest := []) (st2 := [.int r1.1]) (w2 := wW r1.2) dX8_weight_6 cX8_100 (t_X2_tellWeight s x1 x2 _ e2) (wg_5 _) rfl rfl rfl (Nat.le_of_ble_eq_true rfl) (by decide) ⟨Nat.le_refl _, Nat.le_refl _⟩ rfl rfl ?_
  obtain ⟨g3, h⟩ := g_guard h
  cases h
  exact go_iret dX8_weight_9 rfl (isZ_nar g3) (Nat.le_refl _) (Nat.le_refl _) ⟨rfl, rfl⟩
theorem t_X8_weight (s : gS) (x1 : Int32) (x2 : Int32) (r : Int32 × gS) (h : f_X8_weight s x1 x2 = some r) : Cal 2 mX8_weight [.ref 0, .int x1, .int x2] (wW s) 0 0 (some (.int r.1)) (wW r.2) := Cal.of (by decide) (g_cats rfl) (Nat.le_of_ble_eq_true rfl) (b_X8_weight r s x1 x2 h)
def f_X8_isPosition (s : gS) (x1 : Int32) : Option Int32 :=
  if x1 < 0 then
    some 0
  else
    if (s.1 7) < x1 then
      some 0
    else
      some 1
set_option maxHeartbeats 4000000 in
set_option maxRecDepth 100000 in
theorem b_X8_isPosition (s : gS) (r : Int32) : ∀ (x1 : Int32) , f_X8_isPosition s x1 = some r → Go gTr yX8_isPosition cX8_isPosition 2 (some .boolean) 1 0 0 (fun r9 w9 => r9 = some (.int r) ∧ w9 = wW s) 0 0 (wW s) 0 [some (.ref 0), some (.int x1)] [] := by
  intro x1 h
  rw [f_X8_isPosition] at h
  refine go_iload_n (q := 1) dX8_isPosition_0 rfl rfl ?_
  refine go_if_lt (tgt := 19) (q := 4) dX8_isPosition_1 (by decide) rfl (fun c1 => ?_) (fun c1 => ?_)
  · replace h := g_pos c1 h
    refine go_iconst (v := 0) (q := 20) dX8_isPosition_19 (by decide) rfl ?_
    cases h
    exact go_iret dX8_isPosition_20 rfl rfl (Nat.le_refl _) (Nat.le_refl _) ⟨rfl, rfl⟩
  · replace h := g_neg c1 h
    refine go_iload_n (q := 5) dX8_isPosition_4 rfl rfl ?_
    refine go_aload_n (q := 6) dX8_isPosition_5 rfl rfl ?_
    refine go_get (v := .ref 2) (q := 9) dX8_isPosition_6 fX8_21 (wg_0 _) rfl rfl ?_
    refine go_get (v := .int (s.1 7)) (q := 12) dX8_isPosition_9 fX8_89 (wg_2 _) rfl rfl ?_
    refine go_icmp_gt (tgt := 19) (q := 15) dX8_isPosition_12 (by decide) rfl (fun c2 => ?_) (fun c2 => ?_)
    · replace h := g_pos c2 h
      refine go_iconst (v := 0) (q := 20) dX8_isPosition_19 (by decide) rfl ?_
      cases h
      exact go_iret dX8_isPosition_20 rfl rfl (Nat.le_refl _) (Nat.le_refl _) ⟨rfl, rfl⟩
    · replace h := g_neg c2 h
      refine go_iconst (v := 1) (q := 16) dX8_isPosition_15 (by decide) rfl ?_
      refine go_goto (tgt := 20) dX8_isPosition_16 (by decide) ?_
      cases h
      exact go_iret dX8_isPosition_20 rfl rfl (Nat.le_refl _) (Nat.le_refl _) ⟨rfl, rfl⟩
theorem t_X8_isPosition (s : gS) (x1 : Int32) (r : Int32) (h : f_X8_isPosition s x1 = some r) : Cal 1 mX8_isPosition [.ref 0, .int x1] (wW s) 0 0 (some (.int r)) (wW s) := Cal.of (by decide) (g_cats rfl) (Nat.le_of_ble_eq_true rfl) (b_X8_isPosition s r x1 h)
def f_X8_value (s : gS) (x1 : Int32) (x2 : Int32) : Option (Int32 × gS) :=
  (f_X8_isPosition s x1).bind fun r1 =>
  if r1 = 0 then
    some ((-2 : Int32), s)
  else
    if x2 < 0 then
      some ((-2 : Int32), s)
    else
      if x2 ≤ 5 then
        (f_X2_valueBehind s x1 x2).bind fun r6 =>
        some (r6.1, r6.2)
      else
        some ((-2 : Int32), s)
set_option maxHeartbeats 4000000 in
set_option maxRecDepth 100000 in
theorem b_X8_value (r : Int32 × gS) : ∀ (s : gS) (x1 : Int32) (x2 : Int32) , f_X8_value s x1 x2 = some r → Go gTr yX8_value cX8_value 3 (some .int) 12 0 0 (fun r9 w9 => r9 = some (.int r.1) ∧ w9 = wW r.2) 0 0 (wW s) 0 [some (.ref 0), some (.int x1), some (.int x2)] [] := by
  intro s x1 x2 h
  rw [f_X8_value] at h
  refine go_aload_n (q := 1) dX8_value_0 rfl rfl ?_
  refine go_iload_n (q := 2) dX8_value_1 rfl rfl ?_
  obtain ⟨r1, e2, h⟩ := g_bind h
  refine go_callV0 (q := 5) (as := [.int x1]) (rest := []) (st2 := [.int r1]) (w2 := wW s) dX8_value_2 cX8_104 (t_X8_isPosition s x1 _ e2) (wg_0 _) rfl rfl rfl (Nat.le_of_ble_eq_true rfl) (by decide) ⟨Nat.le_refl _, Nat.le_refl _⟩ rfl rfl ?_
  refine go_if_eq (tgt := 17) (q := 8) dX8_value_5 (by decide) rfl (fun c3 => ?_) (fun c3 => ?_)
  · replace h := g_pos c3 h
    refine go_bipush (v := (-2 : Int32)) (q := 19) dX8_value_17 (by decide) rfl ?_
    cases h
    exact go_iret dX8_value_19 rfl rfl (Nat.le_refl _) (Nat.le_refl _) ⟨rfl, rfl⟩
  · replace h := g_neg c3 h
    refine go_iload_n (q := 9) dX8_value_8 rfl rfl ?_
    refine go_if_lt (tgt := 17) (q := 12) dX8_value_9 (by decide) rfl (fun c4 => ?_) (fun c4 => ?_)
    · replace h := g_pos c4 h
      refine go_bipush (v := (-2 : Int32)) (q := 19) dX8_value_17 (by decide) rfl ?_
      cases h
      exact go_iret dX8_value_19 rfl rfl (Nat.le_refl _) (Nat.le_refl _) ⟨rfl, rfl⟩
    · replace h := g_neg c4 h
      refine go_iload_n (q := 13) dX8_value_12 rfl rfl ?_
      refine go_iconst (v := 5) (q := 14) dX8_value_13 (by decide) rfl ?_
      refine go_icmp_le (tgt := 20) (q := 17) dX8_value_14 (by decide) rfl (fun c5 => ?_) (fun c5 => ?_)
      · replace h := g_pos c5 h
        refine go_aload_n (q := 21) dX8_value_20 rfl rfl ?_
        refine go_get (v := .ref 5) (q := 24) dX8_value_21 fX8_37 (wg_0 _) rfl rfl ?_
        refine go_iload_n (q := 25) dX8_value_24 rfl rfl ?_
        refine go_iload_n (q := 26) dX8_value_25 rfl rfl ?_
        obtain ⟨r6, e7, h⟩ := g_bind h
        refine go_callV0 (q := 29) (as := [.int x1, .int x2]) (rest := []) (st2 := [.int r6.1]) (w2 := wW r6.2) dX8_value_26 cX8_107 (t_X2_valueBehind s x1 x2 _ e7) (wg_5 _) rfl rfl rfl (Nat.le_of_ble_eq_true rfl) (by decide) ⟨Nat.le_refl _, Nat.le_refl _⟩ rfl rfl ?_
        cases h
        exact go_iret dX8_value_29 rfl rfl (Nat.le_refl _) (Nat.le_refl _) ⟨rfl, rfl⟩
      · replace h := g_neg c5 h
        refine go_bipush (v := (-2 : Int32)) (q := 19) dX8_value_17 (by decide) rfl ?_
        cases h
        exact go_iret dX8_value_19 rfl rfl (Nat.le_refl _) (Nat.le_refl _) ⟨rfl, rfl⟩
theorem t_X8_value (s : gS) (x1 : Int32) (x2 : Int32) (r : Int32 × gS) (h : f_X8_value s x1 x2 = some r) : Cal 12 mX8_value [.ref 0, .int x1, .int x2] (wW s) 0 0 (some (.int r.1)) (wW r.2) := Cal.of (by decide) (g_cats rfl) (Nat.le_of_ble_eq_true rfl) (b_X8_value r s x1 x2 h)
def f_X8_best_129 (s : gS) (t1 : Int32) : Option (Int32 × gS) :=
  (f_X0_cellOf s t1).bind fun r1 =>
  some (r1, s)
set_option maxHeartbeats 4000000 in
set_option maxRecDepth 100000 in
theorem b_X8_best_129 (r : Int32 × gS) : ∀ (s : gS) (t1 : Int32) , f_X8_best_129 s t1 = some r → Go gTr yX8_best cX8_best 8 (some .int) 12 0 0 (fun r9 w9 => r9 = some (.int r.1) ∧ w9 = wW r.2) 0 0 (wW s) 129 [none, none, none, none, none, none, none, none] [.int t1, .ref 1] := by
  intro s t1 h
  rw [f_X8_best_129] at h
  obtain ⟨r1, e2, h⟩ := g_bind h
  refine go_callV0 (q := 132) (as := [.int t1]) (rest := []) (st2 := [.int r1]) (w2 := wW s) dX8_best_129 cX8_124 (t_X0_cellOf s t1 _ e2) (wg_1 _) rfl rfl rfl (Nat.le_of_ble_eq_true rfl) (by decide) ⟨Nat.le_refl _, Nat.le_refl _⟩ rfl rfl ?_
  cases h
  exact go_iret dX8_best_132 rfl rfl (Nat.le_refl _) (Nat.le_refl _) ⟨rfl, rfl⟩
def f_X8_best_92 (s : gS) (x2 : Int32) (x3 : Int32) (x4 : Int32) (x5 : Int32) (x6 : Int32) (t0 : Int32) : Option (Int32 × gS) :=
  if t0 = 0 then
    (f_X5_lowestReaching s x3 x4 x5 (x2 - 1) x6).bind fun r2 =>
    f_X8_best_129 s r2
  else
    f_X8_best_129 s (x5 &&& (-x5))
set_option maxHeartbeats 4000000 in
set_option maxRecDepth 100000 in
theorem b_X8_best_92 (r : Int32 × gS) : ∀ (s : gS) (x2 : Int32) (x3 : Int32) (x4 : Int32) (x5 : Int32) (x6 : Int32) (t0 : Int32) , f_X8_best_92 s x2 x3 x4 x5 x6 t0 = some r → Go gTr yX8_best cX8_best 8 (some .int) 12 0 0 (fun r9 w9 => r9 = some (.int r.1) ∧ w9 = wW r.2) 0 0 (wW s) 92 [some (.ref 0), none, some (.int x2), some (.int x3), some (.int x4), some (.int x5), some (.int x6), none] [.int t0] := by
  intro s x2 x3 x4 x5 x6 t0 h
  rw [f_X8_best_92] at h
  refine go_istore (ls2 := [some (.ref 0), none, some (.int x2), some (.int x3), some (.int x4), some (.int x5), some (.int x6), some (.int t0)]) (q := 94) dX8_best_92 (by decide) rfl rfl ?_
  refine go_aload_n (q := 95) dX8_best_94 rfl rfl ?_
  refine go_get (v := .ref 1) (q := 98) dX8_best_95 fX8_10 (wg_0 _) rfl rfl ?_
  refine go_iload (q := 100) dX8_best_98 rfl rfl ?_
  refine go_if_eq (tgt := 112) (q := 103) dX8_best_100 (by decide) rfl (fun c1 => ?_) (fun c1 => ?_)
  · replace h := g_pos c1 h
    refine go_aload_n (q := 113) dX8_best_112 rfl rfl ?_
    refine go_get (v := .ref 4) (q := 116) dX8_best_113 fX8_28 (wg_0 _) rfl rfl ?_
    refine go_iload_n (q := 117) dX8_best_116 rfl rfl ?_
    refine go_iload (q := 119) dX8_best_117 rfl rfl ?_
    refine go_iload (q := 121) dX8_best_119 rfl rfl ?_
    refine go_iload_n (q := 122) dX8_best_121 rfl rfl ?_
    refine go_iconst (v := 1) (q := 123) dX8_best_122 (by decide) rfl ?_
    refine go_isub (q := 124) dX8_best_123 rfl ?_
    refine go_iload (q := 126) dX8_best_124 rfl rfl ?_
    obtain ⟨r2, e3, h⟩ := g_bind h
    refine go_callV0 (q := 129) (as := [.int x3, .int x4, .int x5, .int (x2 - 1), .int x6]) (rest := [.ref 1]) (st2 := [.int r2, .ref 1]) (w2 := wW s) dX8_best_126 cX8_120 (t_X5_lowestReaching s x3 x4 x5 (x2 - 1) x6 _ e3) (wg_4 _) rfl rfl rfl (Nat.le_of_ble_eq_true rfl) (by decide) ⟨Nat.le_refl _, Nat.le_refl _⟩ rfl rfl ?_
    refine go_ls (ls2 := [none, none, none, none, none, none, none, none]) trivial ?_
    exact b_X8_best_129 r s r2 h
  · replace h := g_neg c1 h
    refine go_iload (q := 105) dX8_best_103 rfl rfl ?_
    refine go_iload (q := 107) dX8_best_105 rfl rfl ?_
    refine go_ineg (q := 108) dX8_best_107 rfl ?_
    refine go_iand (q := 109) dX8_best_108 rfl ?_
    refine go_goto (tgt := 129) dX8_best_109 (by decide) ?_
    refine go_ls (ls2 := [none, none, none, none, none, none, none, none]) trivial ?_
    exact b_X8_best_129 r s (x5 &&& (-x5)) h
def f_X8_best (s : gS) (x1 : Int32) (x2 : Int32) : Option (Int32 × gS) :=
  (f_X8_isPosition s x1).bind fun r1 =>
  if r1 = 0 then
    some ((-1 : Int32), s)
  else
    if x2 < 1 then
      some ((-1 : Int32), s)
    else
      if 5 < x2 then
        some ((-1 : Int32), s)
      else
        (f_X3_hasEndedBehind s x1).bind fun r6 =>
        if r6 = 0 then
          (f_X3_stonesOf s (x1 &&& 1) x1).bind fun r9 =>
          (f_X3_stonesOf s (1 - (x1 &&& 1)) x1).bind fun r11 =>
          (f_X0_openCells s (r9 ||| r11)).bind fun r13 =>
          (f_X2_valueBehind s x1 x2).bind fun r15 =>
          if 0 ≤ r15.1 then
            f_X8_best_92 r15.2 x2 r9 r11 r13 r15.1 0
          else
            f_X8_best_92 r15.2 x2 r9 r11 r13 r15.1 1
        else
          some ((-1 : Int32), s)
set_option maxHeartbeats 4000000 in
set_option maxRecDepth 100000 in
theorem b_X8_best (r : Int32 × gS) : ∀ (s : gS) (x1 : Int32) (x2 : Int32) , f_X8_best s x1 x2 = some r → Go gTr yX8_best cX8_best 8 (some .int) 12 0 0 (fun r9 w9 => r9 = some (.int r.1) ∧ w9 = wW r.2) 0 0 (wW s) 0 [some (.ref 0), some (.int x1), some (.int x2), none, none, none, none, none] [] := by
  intro s x1 x2 h
  rw [f_X8_best] at h
  refine go_aload_n (q := 1) dX8_best_0 rfl rfl ?_
  refine go_iload_n (q := 2) dX8_best_1 rfl rfl ?_
  obtain ⟨r1, e2, h⟩ := g_bind h
  refine go_callV0 (q := 5) (as := [.int x1]) (rest := []) (st2 := [.int r1]) (w2 := wW s) dX8_best_2 cX8_104 (t_X8_isPosition s x1 _ e2) (wg_0 _) rfl rfl rfl (Nat.le_of_ble_eq_true rfl) (by decide) ⟨Nat.le_refl _, Nat.le_refl _⟩ rfl rfl ?_
  refine go_if_eq (tgt := 29) (q := 8) dX8_best_5 (by decide) rfl (fun c3 => ?_) (fun c3 => ?_)
  · replace h := g_pos c3 h
    refine go_iconst (v := (-1 : Int32)) (q := 30) dX8_best_29 (by decide) rfl ?_
    cases h
    exact go_iret dX8_best_30 rfl rfl (Nat.le_refl _) (Nat.le_refl _) ⟨rfl, rfl⟩
  · replace h := g_neg c3 h
    refine go_iload_n (q := 9) dX8_best_8 rfl rfl ?_
    refine go_iconst (v := 1) (q := 10) dX8_best_9 (by decide) rfl ?_
    refine go_icmp_lt (tgt := 29) (q := 13) dX8_best_10 (by decide) rfl (fun c4 => ?_) (fun c4 => ?_)
    · replace h := g_pos c4 h
      refine go_iconst (v := (-1 : Int32)) (q := 30) dX8_best_29 (by decide) rfl ?_
      cases h
      exact go_iret dX8_best_30 rfl rfl (Nat.le_refl _) (Nat.le_refl _) ⟨rfl, rfl⟩
    · replace h := g_neg c4 h
      refine go_iload_n (q := 14) dX8_best_13 rfl rfl ?_
      refine go_iconst (v := 5) (q := 15) dX8_best_14 (by decide) rfl ?_
      refine go_icmp_gt (tgt := 29) (q := 18) dX8_best_15 (by decide) rfl (fun c5 => ?_) (fun c5 => ?_)
      · replace h := g_pos c5 h
        refine go_iconst (v := (-1 : Int32)) (q := 30) dX8_best_29 (by decide) rfl ?_
        cases h
        exact go_iret dX8_best_30 rfl rfl (Nat.le_refl _) (Nat.le_refl _) ⟨rfl, rfl⟩
      · replace h := g_neg c5 h
        refine go_aload_n (q := 19) dX8_best_18 rfl rfl ?_
        refine go_get (v := .ref 2) (q := 22) dX8_best_19 fX8_21 (wg_0 _) rfl rfl ?_
        refine go_iload_n (q := 23) dX8_best_22 rfl rfl ?_
        obtain ⟨r6, e7, h⟩ := g_bind h
        refine go_callV0 (q := 26) (as := [.int x1]) (rest := []) (st2 := [.int r6]) (w2 := wW s) dX8_best_23 cX8_111 (t_X3_hasEndedBehind s x1 _ e7) (wg_2 _) rfl rfl rfl (Nat.le_of_ble_eq_true rfl) (by decide) ⟨Nat.le_refl _, Nat.le_refl _⟩ rfl rfl ?_
        refine go_if_eq (tgt := 31) (q := 29) dX8_best_26 (by decide) rfl (fun c8 => ?_) (fun c8 => ?_)
        · replace h := g_pos c8 h
          refine go_aload_n (q := 32) dX8_best_31 rfl rfl ?_
          refine go_get (v := .ref 2) (q := 35) dX8_best_32 fX8_21 (wg_0 _) rfl rfl ?_
          refine go_iload_n (q := 36) dX8_best_35 rfl rfl ?_
          refine go_iconst (v := 1) (q := 37) dX8_best_36 (by decide) rfl ?_
          refine go_iand (q := 38) dX8_best_37 rfl ?_
          refine go_iload_n (q := 39) dX8_best_38 rfl rfl ?_
          obtain ⟨r9, e10, h⟩ := g_bind h
          refine go_callV0 (q := 42) (as := [.int (x1 &&& 1), .int x1]) (rest := []) (st2 := [.int r9]) (w2 := wW s) dX8_best_39 cX8_114 (t_X3_stonesOf s (x1 &&& 1) x1 _ e10) (wg_2 _) rfl rfl rfl (Nat.le_of_ble_eq_true rfl) (by decide) ⟨Nat.le_refl _, Nat.le_refl _⟩ rfl rfl ?_
          refine go_istore_n (ls2 := [some (.ref 0), some (.int x1), some (.int x2), some (.int r9), none, none, none, none]) (q := 43) dX8_best_42 (by decide) rfl rfl ?_
          refine go_aload_n (q := 44) dX8_best_43 rfl rfl ?_
          refine go_get (v := .ref 2) (q := 47) dX8_best_44 fX8_21 (wg_0 _) rfl rfl ?_
          refine go_iconst (v := 1) (q := 48) dX8_best_47 (by decide) rfl ?_
          refine go_iload_n (q := 49) dX8_best_48 rfl rfl ?_
          refine go_iconst (v := 1) (q := 50) dX8_best_49 (by decide) rfl ?_
          refine go_iand (q := 51) dX8_best_50 rfl ?_
          refine go_isub (q := 52) dX8_best_51 rfl ?_
          refine go_iload_n (q := 53) dX8_best_52 rfl rfl ?_
          obtain ⟨r11, e12, h⟩ := g_bind h
          refine go_callV0 (q := 56) (as := [.int (1 - (x1 &&& 1)), .int x1]) (rest := []) (st2 := [.int r11]) (w2 := wW s) dX8_best_53 cX8_114 (t_X3_stonesOf s (1 - (x1 &&& 1)) x1 _ e12) (wg_2 _) rfl rfl rfl (Nat.le_of_ble_eq_true rfl) (by decide) ⟨Nat.le_refl _, Nat.le_refl _⟩ rfl rfl ?_
          refine go_istore (ls2 := [some (.ref 0), some (.int x1), some (.int x2), some (.int r9), some (.int r11), none, none, none]) (q := 58) dX8_best_56 (by decide) rfl rfl ?_
          refine go_aload_n (q := 59) dX8_best_58 rfl rfl ?_
          refine go_get (v := .ref 1) (q := 62) dX8_best_59 fX8_10 (wg_0 _) rfl rfl ?_
          refine go_iload_n (q := 63) dX8_best_62 rfl rfl ?_
          refine go_iload (q := 65) dX8_best_63 rfl rfl ?_
          refine go_ior (q := 66) dX8_best_65 rfl ?_
          obtain ⟨r13, e14, h⟩ := g_bind h
          refine go_callV0 (q := 69) (as := [.int (r9 ||| r11)]) (rest := []) (st2 := [.int r13]) (w2 := wW s) dX8_best_66 cX8_117 (t_X0_openCells s (r9 ||| r11) _ e14) (wg_1 _) rfl rfl rfl (Nat.le_of_ble_eq_true rfl) (by decide) ⟨Nat.le_refl _, Nat.le_refl _⟩ rfl rfl ?_
          refine go_istore (ls2 := [some (.ref 0), some (.int x1), some (.int x2), some (.int r9), some (.int r11), some (.int r13), none, none]) (q := 71) dX8_best_69 (by decide) rfl rfl ?_
          refine go_aload_n (q := 72) dX8_best_71 rfl rfl ?_
          refine go_get (v := .ref 5) (q := 75) dX8_best_72 fX8_37 (wg_0 _) rfl rfl ?_
          refine go_iload_n (q := 76) dX8_best_75 rfl rfl ?_
          refine go_iload_n (q := 77) dX8_best_76 rfl rfl ?_
          obtain ⟨r15, e16, h⟩ := g_bind h
          refine go_callV0 (q := 80) (as := [.int x1, .int x2]) (rest := []) (st2 := [.int r15.1]) (w2 := wW r15.2) dX8_best_77 cX8_107 (t_X2_valueBehind s x1 x2 _ e16) (wg_5 _) rfl rfl rfl (Nat.le_of_ble_eq_true rfl) (by decide) ⟨Nat.le_refl _, Nat.le_refl _⟩ rfl rfl ?_
          refine go_istore (ls2 := [some (.ref 0), some (.int x1), some (.int x2), some (.int r9), some (.int r11), some (.int r13), some (.int r15.1), none]) (q := 82) dX8_best_80 (by decide) rfl rfl ?_
          refine go_iload (q := 84) dX8_best_82 rfl rfl ?_
          refine go_if_ge (tgt := 91) (q := 87) dX8_best_84 (by decide) rfl (fun c17 => ?_) (fun c17 => ?_)
          · replace h := g_pos c17 h
            refine go_iconst (v := 0) (q := 92) dX8_best_91 (by decide) rfl ?_
            refine go_ls (ls2 := [some (.ref 0), none, some (.int x2), some (.int r9), some (.int r11), some (.int r13), some (.int r15.1), none]) ⟨rfl, rfl, rfl, rfl, rfl, rfl, trivial⟩ ?_
            exact b_X8_best_92 r r15.2 x2 r9 r11 r13 r15.1 0 h
          · replace h := g_neg c17 h
            refine go_iconst (v := 1) (q := 88) dX8_best_87 (by decide) rfl ?_
            refine go_goto (tgt := 92) dX8_best_88 (by decide) ?_
            refine go_ls (ls2 := [some (.ref 0), none, some (.int x2), some (.int r9), some (.int r11), some (.int r13), some (.int r15.1), none]) ⟨rfl, rfl, rfl, rfl, rfl, rfl, trivial⟩ ?_
            exact b_X8_best_92 r r15.2 x2 r9 r11 r13 r15.1 1 h
        · replace h := g_neg c8 h
          refine go_iconst (v := (-1 : Int32)) (q := 30) dX8_best_29 (by decide) rfl ?_
          cases h
          exact go_iret dX8_best_30 rfl rfl (Nat.le_refl _) (Nat.le_refl _) ⟨rfl, rfl⟩
theorem t_X8_best (s : gS) (x1 : Int32) (x2 : Int32) (r : Int32 × gS) (h : f_X8_best s x1 x2 = some r) : Cal 12 mX8_best [.ref 0, .int x1, .int x2] (wW s) 0 0 (some (.int r.1)) (wW r.2) := Cal.of (by decide) (g_cats rfl) (Nat.le_of_ble_eq_true rfl) (b_X8_best r s x1 x2 h)
def f_X8_isMove (s : gS) (x1 : Int32) : Option Int32 :=
  if x1 < 1 then
    some 0
  else
    if (s.1 7) < x1 then
      some 0
    else
      some 1
set_option maxHeartbeats 4000000 in
set_option maxRecDepth 100000 in
theorem b_X8_isMove (s : gS) (r : Int32) : ∀ (x1 : Int32) , f_X8_isMove s x1 = some r → Go gTr yX8_isMove cX8_isMove 2 (some .boolean) 1 0 0 (fun r9 w9 => r9 = some (.int r) ∧ w9 = wW s) 0 0 (wW s) 0 [some (.ref 0), some (.int x1)] [] := by
  intro x1 h
  rw [f_X8_isMove] at h
  refine go_iload_n (q := 1) dX8_isMove_0 rfl rfl ?_
  refine go_iconst (v := 1) (q := 2) dX8_isMove_1 (by decide) rfl ?_
  refine go_icmp_lt (tgt := 20) (q := 5) dX8_isMove_2 (by decide) rfl (fun c1 => ?_) (fun c1 => ?_)
  · replace h := g_pos c1 h
    refine go_iconst (v := 0) (q := 21) dX8_isMove_20 (by decide) rfl ?_
    cases h
    exact go_iret dX8_isMove_21 rfl rfl (Nat.le_refl _) (Nat.le_refl _) ⟨rfl, rfl⟩
  · replace h := g_neg c1 h
    refine go_iload_n (q := 6) dX8_isMove_5 rfl rfl ?_
    refine go_aload_n (q := 7) dX8_isMove_6 rfl rfl ?_
    refine go_get (v := .ref 2) (q := 10) dX8_isMove_7 fX8_21 (wg_0 _) rfl rfl ?_
    refine go_get (v := .int (s.1 7)) (q := 13) dX8_isMove_10 fX8_89 (wg_2 _) rfl rfl ?_
    refine go_icmp_gt (tgt := 20) (q := 16) dX8_isMove_13 (by decide) rfl (fun c2 => ?_) (fun c2 => ?_)
    · replace h := g_pos c2 h
      refine go_iconst (v := 0) (q := 21) dX8_isMove_20 (by decide) rfl ?_
      cases h
      exact go_iret dX8_isMove_21 rfl rfl (Nat.le_refl _) (Nat.le_refl _) ⟨rfl, rfl⟩
    · replace h := g_neg c2 h
      refine go_iconst (v := 1) (q := 17) dX8_isMove_16 (by decide) rfl ?_
      refine go_goto (tgt := 21) dX8_isMove_17 (by decide) ?_
      cases h
      exact go_iret dX8_isMove_21 rfl rfl (Nat.le_refl _) (Nat.le_refl _) ⟨rfl, rfl⟩
theorem t_X8_isMove (s : gS) (x1 : Int32) (r : Int32) (h : f_X8_isMove s x1 = some r) : Cal 1 mX8_isMove [.ref 0, .int x1] (wW s) 0 0 (some (.int r)) (wW s) := Cal.of (by decide) (g_cats rfl) (Nat.le_of_ble_eq_true rfl) (b_X8_isMove s r x1 h)
def f_X8_found (s : gS) (x1 : Int32) (x2 : Int32) : Option (Int32 × gS) :=
  (f_X8_isMove s x1).bind fun r1 =>
  if r1 = 0 then
    some ((-1 : Int32), s)
  else
    if x2 < 0 then
      some ((-1 : Int32), s)
    else
      if x2 < 6 then
        (f_X2_examine s).bind fun r6 =>
        (f_X2_amountOf r6 x1 x2).bind fun r8 =>
        some (r8, r6)
      else
        some ((-1 : Int32), s)
set_option maxHeartbeats 4000000 in
set_option maxRecDepth 100000 in
theorem b_X8_found (r : Int32 × gS) : ∀ (s : gS) (x1 : Int32) (x2 : Int32) , f_X8_found s x1 x2 = some r → Go gTr yX8_found cX8_found 3 (some .int) 15 0 0 (fun r9 w9 => r9 = some (.int r.1) ∧ w9 = wW r.2) 0 0 (wW s) 0 [some (.ref 0), some (.int x1), some (.int x2)] [] := by
  intro s x1 x2 h
  rw [f_X8_found] at h
  refine go_aload_n (q := 1) dX8_found_0 rfl rfl ?_
  refine go_iload_n (q := 2) dX8_found_1 rfl rfl ?_
  obtain ⟨r1, e2, h⟩ := g_bind h
  refine go_callV0 (q := 5) (as := [.int x1]) (rest := []) (st2 := [.int r1]) (w2 := wW s) dX8_found_2 cX8_127 (t_X8_isMove s x1 _ e2) (wg_0 _) rfl rfl rfl (Nat.le_of_ble_eq_true rfl) (by decide) ⟨Nat.le_refl _, Nat.le_refl _⟩ rfl rfl ?_
  refine go_if_eq (tgt := 18) (q := 8) dX8_found_5 (by decide) rfl (fun c3 => ?_) (fun c3 => ?_)
  · replace h := g_pos c3 h
    refine go_iconst (v := (-1 : Int32)) (q := 19) dX8_found_18 (by decide) rfl ?_
    cases h
    exact go_iret dX8_found_19 rfl rfl (Nat.le_refl _) (Nat.le_refl _) ⟨rfl, rfl⟩
  · replace h := g_neg c3 h
    refine go_iload_n (q := 9) dX8_found_8 rfl rfl ?_
    refine go_if_lt (tgt := 18) (q := 12) dX8_found_9 (by decide) rfl (fun c4 => ?_) (fun c4 => ?_)
    · replace h := g_pos c4 h
      refine go_iconst (v := (-1 : Int32)) (q := 19) dX8_found_18 (by decide) rfl ?_
      cases h
      exact go_iret dX8_found_19 rfl rfl (Nat.le_refl _) (Nat.le_refl _) ⟨rfl, rfl⟩
    · replace h := g_neg c4 h
      refine go_iload_n (q := 13) dX8_found_12 rfl rfl ?_
      refine go_bipush (v := 6) (q := 15) dX8_found_13 (by decide) rfl ?_
      refine go_icmp_lt (tgt := 20) (q := 18) dX8_found_15 (by decide) rfl (fun c5 => ?_) (fun c5 => ?_)
      · replace h := g_pos c5 h
        refine go_aload_n (q := 21) dX8_found_20 rfl rfl ?_
        refine go_get (v := .ref 5) (q := 24) dX8_found_21 fX8_37 (wg_0 _) rfl rfl ?_
        obtain ⟨r6, e7, h⟩ := g_bind h
        refine go_callV0 (q := 27) (as := []) (rest := []) (st2 := []) (w2 := wW r6) dX8_found_24 cX8_130 (t_X2_examine s _ e7) (wg_5 _) rfl rfl rfl (Nat.le_of_ble_eq_true rfl) (by decide) ⟨Nat.le_refl _, Nat.le_refl _⟩ rfl rfl ?_
        refine go_aload_n (q := 28) dX8_found_27 rfl rfl ?_
        refine go_get (v := .ref 5) (q := 31) dX8_found_28 fX8_37 (wg_0 _) rfl rfl ?_
        refine go_iload_n (q := 32) dX8_found_31 rfl rfl ?_
        refine go_iload_n (q := 33) dX8_found_32 rfl rfl ?_
        obtain ⟨r8, e9, h⟩ := g_bind h
        refine go_callV0 (q := 36) (as := [.int x1, .int x2]) (rest := []) (st2 := [.int r8]) (w2 := wW r6) dX8_found_33 cX8_133 (t_X2_amountOf r6 x1 x2 _ e9) (wg_5 _) rfl rfl rfl (Nat.le_of_ble_eq_true rfl) (by decide) ⟨Nat.le_refl _, Nat.le_refl _⟩ rfl rfl ?_
        cases h
        exact go_iret dX8_found_36 rfl rfl (Nat.le_refl _) (Nat.le_refl _) ⟨rfl, rfl⟩
      · replace h := g_neg c5 h
        refine go_iconst (v := (-1 : Int32)) (q := 19) dX8_found_18 (by decide) rfl ?_
        cases h
        exact go_iret dX8_found_19 rfl rfl (Nat.le_refl _) (Nat.le_refl _) ⟨rfl, rfl⟩
theorem t_X8_found (s : gS) (x1 : Int32) (x2 : Int32) (r : Int32 × gS) (h : f_X8_found s x1 x2 = some r) : Cal 15 mX8_found [.ref 0, .int x1, .int x2] (wW s) 0 0 (some (.int r.1)) (wW r.2) := Cal.of (by decide) (g_cats rfl) (Nat.le_of_ble_eq_true rfl) (b_X8_found r s x1 x2 h)
def f_X8_leader (s : gS) (x1 : Int32) : Option (Int32 × gS) :=
  (f_X8_isPosition s x1).bind fun r1 =>
  if r1 = 0 then
    some ((-1 : Int32), s)
  else
    (f_X2_leaderBehind s x1).bind fun r4 =>
    some (r4.1, r4.2)
set_option maxHeartbeats 4000000 in
set_option maxRecDepth 100000 in
theorem b_X8_leader (r : Int32 × gS) : ∀ (s : gS) (x1 : Int32) , f_X8_leader s x1 = some r → Go gTr yX8_leader cX8_leader 2 (some .int) 13 0 0 (fun r9 w9 => r9 = some (.int r.1) ∧ w9 = wW r.2) 0 0 (wW s) 0 [some (.ref 0), some (.int x1)] [] := by
  intro s x1 h
  rw [f_X8_leader] at h
  refine go_aload_n (q := 1) dX8_leader_0 rfl rfl ?_
  refine go_iload_n (q := 2) dX8_leader_1 rfl rfl ?_
  obtain ⟨r1, e2, h⟩ := g_bind h
  refine go_callV0 (q := 5) (as := [.int x1]) (rest := []) (st2 := [.int r1]) (w2 := wW s) dX8_leader_2 cX8_104 (t_X8_isPosition s x1 _ e2) (wg_0 _) rfl rfl rfl (Nat.le_of_ble_eq_true rfl) (by decide) ⟨Nat.le_refl _, Nat.le_refl _⟩ rfl rfl ?_
  refine go_if_eq (tgt := 19) (q := 8) dX8_leader_5 (by decide) rfl (fun c3 => ?_) (fun c3 => ?_)
  · replace h := g_pos c3 h
    refine go_iconst (v := (-1 : Int32)) (q := 20) dX8_leader_19 (by decide) rfl ?_
    cases h
    exact go_iret dX8_leader_20 rfl rfl (Nat.le_refl _) (Nat.le_refl _) ⟨rfl, rfl⟩
  · replace h := g_neg c3 h
    refine go_aload_n (q := 9) dX8_leader_8 rfl rfl ?_
    refine go_get (v := .ref 5) (q := 12) dX8_leader_9 fX8_37 (wg_0 _) rfl rfl ?_
    refine go_iload_n (q := 13) dX8_leader_12 rfl rfl ?_
    obtain ⟨r4, e5, h⟩ := g_bind h
    refine go_callV0 (q := 16) (as := [.int x1]) (rest := []) (st2 := [.int r4.1]) (w2 := wW r4.2) dX8_leader_13 cX8_136 (t_X2_leaderBehind s x1 _ e5) (wg_5 _) rfl rfl rfl (Nat.le_of_ble_eq_true rfl) (by decide) ⟨Nat.le_refl _, Nat.le_refl _⟩ rfl rfl ?_
    refine go_goto (tgt := 20) dX8_leader_16 (by decide) ?_
    cases h
    exact go_iret dX8_leader_20 rfl rfl (Nat.le_refl _) (Nat.le_refl _) ⟨rfl, rfl⟩
theorem t_X8_leader (s : gS) (x1 : Int32) (r : Int32 × gS) (h : f_X8_leader s x1 = some r) : Cal 13 mX8_leader [.ref 0, .int x1] (wW s) 0 0 (some (.int r.1)) (wW r.2) := Cal.of (by decide) (g_cats rfl) (Nat.le_of_ble_eq_true rfl) (b_X8_leader r s x1 h)
def f_X8_plan (s : gS) (x1 : Int32) : Option Int32 :=
  if x1 < 0 then
    some (-1 : Int32)
  else
    if 1 < x1 then
      some (-1 : Int32)
    else
      (f_X3_hasEndedBehind s (s.1 7)).bind fun r3 =>
      if r3 = 0 then
        (f_X3_stonesOf s x1 (s.1 7)).bind fun r6 =>
        (f_X3_stonesOf s (1 - x1) (s.1 7)).bind fun r8 =>
        (f_X0_fewestToRow s r6 r8).bind fun r10 =>
        if 4 < r10 then
          some (-1 : Int32)
        else
          some r10
      else
        some (-1 : Int32)
set_option maxHeartbeats 4000000 in
set_option maxRecDepth 100000 in
theorem b_X8_plan (s : gS) (r : Int32) : ∀ (x1 : Int32) , f_X8_plan s x1 = some r → Go gTr yX8_plan cX8_plan 5 (some .int) 3 0 0 (fun r9 w9 => r9 = some (.int r) ∧ w9 = wW s) 0 0 (wW s) 0 [some (.ref 0), some (.int x1), none, none, none] [] := by
  intro x1 h
  rw [f_X8_plan] at h
  refine go_iload_n (q := 1) dX8_plan_0 rfl rfl ?_
  refine go_if_lt (tgt := 26) (q := 4) dX8_plan_1 (by decide) rfl (fun c1 => ?_) (fun c1 => ?_)
  · replace h := g_pos c1 h
    refine go_iconst (v := (-1 : Int32)) (q := 27) dX8_plan_26 (by decide) rfl ?_
    cases h
    exact go_iret dX8_plan_27 rfl rfl (Nat.le_refl _) (Nat.le_refl _) ⟨rfl, rfl⟩
  · replace h := g_neg c1 h
    refine go_iload_n (q := 5) dX8_plan_4 rfl rfl ?_
    refine go_iconst (v := 1) (q := 6) dX8_plan_5 (by decide) rfl ?_
    refine go_icmp_gt (tgt := 26) (q := 9) dX8_plan_6 (by decide) rfl (fun c2 => ?_) (fun c2 => ?_)
    · replace h := g_pos c2 h
      refine go_iconst (v := (-1 : Int32)) (q := 27) dX8_plan_26 (by decide) rfl ?_
      cases h
      exact go_iret dX8_plan_27 rfl rfl (Nat.le_refl _) (Nat.le_refl _) ⟨rfl, rfl⟩
    · replace h := g_neg c2 h
      refine go_aload_n (q := 10) dX8_plan_9 rfl rfl ?_
      refine go_get (v := .ref 2) (q := 13) dX8_plan_10 fX8_21 (wg_0 _) rfl rfl ?_
      refine go_aload_n (q := 14) dX8_plan_13 rfl rfl ?_
      refine go_get (v := .ref 2) (q := 17) dX8_plan_14 fX8_21 (wg_0 _) rfl rfl ?_
      refine go_get (v := .int (s.1 7)) (q := 20) dX8_plan_17 fX8_89 (wg_2 _) rfl rfl ?_
      obtain ⟨r3, e4, h⟩ := g_bind h
      refine go_callV0 (q := 23) (as := [.int (s.1 7)]) (rest := []) (st2 := [.int r3]) (w2 := wW s) dX8_plan_20 cX8_111 (t_X3_hasEndedBehind s (s.1 7) _ e4) (wg_2 _) rfl rfl rfl (Nat.le_of_ble_eq_true rfl) (by decide) ⟨Nat.le_refl _, Nat.le_refl _⟩ rfl rfl ?_
      refine go_if_eq (tgt := 28) (q := 26) dX8_plan_23 (by decide) rfl (fun c5 => ?_) (fun c5 => ?_)
      · replace h := g_pos c5 h
        refine go_aload_n (q := 29) dX8_plan_28 rfl rfl ?_
        refine go_get (v := .ref 2) (q := 32) dX8_plan_29 fX8_21 (wg_0 _) rfl rfl ?_
        refine go_iload_n (q := 33) dX8_plan_32 rfl rfl ?_
        refine go_aload_n (q := 34) dX8_plan_33 rfl rfl ?_
        refine go_get (v := .ref 2) (q := 37) dX8_plan_34 fX8_21 (wg_0 _) rfl rfl ?_
        refine go_get (v := .int (s.1 7)) (q := 40) dX8_plan_37 fX8_89 (wg_2 _) rfl rfl ?_
        obtain ⟨r6, e7, h⟩ := g_bind h
        refine go_callV0 (q := 43) (as := [.int x1, .int (s.1 7)]) (rest := []) (st2 := [.int r6]) (w2 := wW s) dX8_plan_40 cX8_114 (t_X3_stonesOf s x1 (s.1 7) _ e7) (wg_2 _) rfl rfl rfl (Nat.le_of_ble_eq_true rfl) (by decide) ⟨Nat.le_refl _, Nat.le_refl _⟩ rfl rfl ?_
        refine go_istore_n (ls2 := [some (.ref 0), some (.int x1), some (.int r6), none, none]) (q := 44) dX8_plan_43 (by decide) rfl rfl ?_
        refine go_aload_n (q := 45) dX8_plan_44 rfl rfl ?_
        refine go_get (v := .ref 2) (q := 48) dX8_plan_45 fX8_21 (wg_0 _) rfl rfl ?_
        refine go_iconst (v := 1) (q := 49) dX8_plan_48 (by decide) rfl ?_
        refine go_iload_n (q := 50) dX8_plan_49 rfl rfl ?_
        refine go_isub (q := 51) dX8_plan_50 rfl ?_
        refine go_aload_n (q := 52) dX8_plan_51 rfl rfl ?_
        refine go_get (v := .ref 2) (q := 55) dX8_plan_52 fX8_21 (wg_0 _) rfl rfl ?_
        refine go_get (v := .int (s.1 7)) (q := 58) dX8_plan_55 fX8_89 (wg_2 _) rfl rfl ?_
        obtain ⟨r8, e9, h⟩ := g_bind h
        refine go_callV0 (q := 61) (as := [.int (1 - x1), .int (s.1 7)]) (rest := []) (st2 := [.int r8]) (w2 := wW s) dX8_plan_58 cX8_114 (t_X3_stonesOf s (1 - x1) (s.1 7) _ e9) (wg_2 _) rfl rfl rfl (Nat.le_of_ble_eq_true rfl) (by decide) ⟨Nat.le_refl _, Nat.le_refl _⟩ rfl rfl ?_
        refine go_istore_n (ls2 := [some (.ref 0), some (.int x1), some (.int r6), some (.int r8), none]) (q := 62) dX8_plan_61 (by decide) rfl rfl ?_
        refine go_aload_n (q := 63) dX8_plan_62 rfl rfl ?_
        refine go_get (v := .ref 1) (q := 66) dX8_plan_63 fX8_10 (wg_0 _) rfl rfl ?_
        refine go_iload_n (q := 67) dX8_plan_66 rfl rfl ?_
        refine go_iload_n (q := 68) dX8_plan_67 rfl rfl ?_
        obtain ⟨r10, e11, h⟩ := g_bind h
        refine go_callV0 (q := 71) (as := [.int r6, .int r8]) (rest := []) (st2 := [.int r10]) (w2 := wW s) dX8_plan_68 cX8_139 (t_X0_fewestToRow s r6 r8 _ e11) (wg_1 _) rfl rfl rfl (Nat.le_of_ble_eq_true rfl) (by decide) ⟨Nat.le_refl _, Nat.le_refl _⟩ rfl rfl ?_
        refine go_istore (ls2 := [some (.ref 0), some (.int x1), some (.int r6), some (.int r8), some (.int r10)]) (q := 73) dX8_plan_71 (by decide) rfl rfl ?_
        refine go_iload (q := 75) dX8_plan_73 rfl rfl ?_
        refine go_iconst (v := 4) (q := 76) dX8_plan_75 (by decide) rfl ?_
        refine go_icmp_gt (tgt := 84) (q := 79) dX8_plan_76 (by decide) rfl (fun c12 => ?_) (fun c12 => ?_)
        · replace h := g_pos c12 h
          refine go_iconst (v := (-1 : Int32)) (q := 85) dX8_plan_84 (by decide) rfl ?_
          cases h
          exact go_iret dX8_plan_85 rfl rfl (Nat.le_refl _) (Nat.le_refl _) ⟨rfl, rfl⟩
        · replace h := g_neg c12 h
          refine go_iload (q := 81) dX8_plan_79 rfl rfl ?_
          refine go_goto (tgt := 85) dX8_plan_81 (by decide) ?_
          cases h
          exact go_iret dX8_plan_85 rfl rfl (Nat.le_refl _) (Nat.le_refl _) ⟨rfl, rfl⟩
      · replace h := g_neg c5 h
        refine go_iconst (v := (-1 : Int32)) (q := 27) dX8_plan_26 (by decide) rfl ?_
        cases h
        exact go_iret dX8_plan_27 rfl rfl (Nat.le_refl _) (Nat.le_refl _) ⟨rfl, rfl⟩
theorem t_X8_plan (s : gS) (x1 : Int32) (r : Int32) (h : f_X8_plan s x1 = some r) : Cal 3 mX8_plan [.ref 0, .int x1] (wW s) 0 0 (some (.int r)) (wW s) := Cal.of (by decide) (g_cats rfl) (Nat.le_of_ble_eq_true rfl) (b_X8_plan s r x1 h)
def f_X4_isLevel (x0 : Int32) : Option Int32 :=
  if x0 = 0 then
    some 1
  else
    if x0 = 1 then
      some 1
    else
      some 0
set_option maxHeartbeats 4000000 in
set_option maxRecDepth 100000 in
theorem b_X4_isLevel (w : List va_E) (r : Int32) : ∀ (x0 : Int32) , f_X4_isLevel x0 = some r → Go gTr yX4_isLevel cX4_isLevel 1 (some .boolean) 1 0 0 (fun r9 w9 => r9 = some (.int r) ∧ w9 = w) 0 0 w 0 [some (.int x0)] [] := by
  intro x0 h
  rw [f_X4_isLevel] at h
  refine go_iload_n (q := 1) dX4_isLevel_0 rfl rfl ?_
  refine go_if_eq (tgt := 9) (q := 4) dX4_isLevel_1 (by decide) rfl (fun c1 => ?_) (fun c1 => ?_)
  · replace h := g_pos c1 h
    refine go_iconst (v := 1) (q := 10) dX4_isLevel_9 (by decide) rfl ?_
    refine go_goto (tgt := 14) dX4_isLevel_10 (by decide) ?_
    cases h
    exact go_iret dX4_isLevel_14 rfl rfl (Nat.le_refl _) (Nat.le_refl _) ⟨rfl, rfl⟩
  · replace h := g_neg c1 h
    refine go_iload_n (q := 5) dX4_isLevel_4 rfl rfl ?_
    refine go_iconst (v := 1) (q := 6) dX4_isLevel_5 (by decide) rfl ?_
    refine go_icmp_ne (tgt := 13) (q := 9) dX4_isLevel_6 (by decide) rfl (fun c2 => ?_) (fun c2 => ?_)
    · replace h := g_neg c2 h
      refine go_iconst (v := 0) (q := 14) dX4_isLevel_13 (by decide) rfl ?_
      cases h
      exact go_iret dX4_isLevel_14 rfl rfl (Nat.le_refl _) (Nat.le_refl _) ⟨rfl, rfl⟩
    · replace h := g_pos c2 h
      refine go_iconst (v := 1) (q := 10) dX4_isLevel_9 (by decide) rfl ?_
      refine go_goto (tgt := 14) dX4_isLevel_10 (by decide) ?_
      cases h
      exact go_iret dX4_isLevel_14 rfl rfl (Nat.le_refl _) (Nat.le_refl _) ⟨rfl, rfl⟩
theorem t_X4_isLevel (w : List va_E) (x0 : Int32) (r : Int32) (h : f_X4_isLevel x0 = some r) : Cal 1 mX4_isLevel [.int x0] w 0 0 (some (.int r)) w := Cal.of (by decide) (g_cats rfl) (Nat.le_of_ble_eq_true rfl) (b_X4_isLevel w r x0 h)
def f_X7_clearb (s : gS) : Option gS :=
  some (ss s 18 0)
set_option maxHeartbeats 4000000 in
set_option maxRecDepth 100000 in
theorem b_X7_clearb (r : gS) : ∀ (s : gS) , f_X7_clearb s = some r → Go gTr yX7_clear cX7_clear 1 none 1 0 0 (fun r9 w9 => r9 = none ∧ w9 = wW r) 0 0 (wW s) 0 [some (.ref 21)] [] := by
  intro s h
  rw [f_X7_clearb] at h
  refine go_aload_n (q := 1) dX7_clear_0 rfl rfl ?_
  refine go_iconst (v := 0) (q := 2) dX7_clear_1 (by decide) rfl ?_
  refine go_put (w2 := wW (ss s 18 0)) (q := 5) dX7_clear_2 fX7_15 (wg_21 _) (Nat.le_of_ble_eq_true rfl) (fun _ => rfl) (fun _ => rfl) (wp_21_1 _ _) rfl ?_
  cases h
  exact go_ret dX7_clear_5 rfl (Nat.le_refl _) (Nat.le_refl _) ⟨rfl, rfl⟩
theorem t_X7_clearb (s : gS) (r : gS) (h : f_X7_clearb s = some r) : Cal 1 mX7_clear [.ref 21] (wW s) 0 0 none (wW r) := Cal.of (by decide) (g_cats rfl) (Nat.le_of_ble_eq_true rfl) (b_X7_clearb r s h)
def f_X7_addByteb (s : gS) (x1 : Int32) : Option gS :=
  if 272 ≤ (s.1 18) then
    some s
  else
    if inB (s.1 18) 272 = true then
      some (ss (sa s 12 ((s.1 18).toNatClampNeg) x1.toInt8.toInt32.toInt8.toInt32) 18 ((s.1 18) + 1))
    else none
set_option maxHeartbeats 4000000 in
set_option maxRecDepth 100000 in
theorem b_X7_addByteb (r : gS) : ∀ (s : gS) (x1 : Int32) , f_X7_addByteb s x1 = some r → Go gTr yX7_addByte cX7_addByte 2 none 1 0 0 (fun r9 w9 => r9 = none ∧ w9 = wW r) 0 0 (wW s) 0 [some (.ref 21), some (.int x1)] [] := by
  intro s x1 h
  rw [f_X7_addByteb] at h
  refine go_aload_n (q := 1) dX7_addByte_0 rfl rfl ?_
  refine go_get (v := .int (s.1 18)) (q := 4) dX7_addByte_1 fX7_15 (wg_21 _) rfl rfl ?_
  refine go_aload_n (q := 5) dX7_addByte_4 rfl rfl ?_
  refine go_get (v := .ref 22) (q := 8) dX7_addByte_5 fX7_11 (wg_21 _) rfl rfl ?_
  refine go_alen (v := 272) (q := 9) dX7_addByte_8 (by decide) (wg_22 _) rfl rfl ?_
  refine go_icmp_ge (tgt := 33) (q := 12) dX7_addByte_9 (by decide) rfl (fun c1 => ?_) (fun c1 => ?_)
  · replace h := g_pos c1 h
    cases h
    exact go_ret dX7_addByte_33 rfl (Nat.le_refl _) (Nat.le_refl _) ⟨rfl, rfl⟩
  · replace h := g_neg c1 h
    refine go_aload_n (q := 13) dX7_addByte_12 rfl rfl ?_
    refine go_get (v := .ref 22) (q := 16) dX7_addByte_13 fX7_11 (wg_21 _) rfl rfl ?_
    refine go_aload_n (q := 17) dX7_addByte_16 rfl rfl ?_
    refine go_get (v := .int (s.1 18)) (q := 20) dX7_addByte_17 fX7_15 (wg_21 _) rfl rfl ?_
    refine go_iload_n (q := 21) dX7_addByte_20 rfl rfl ?_
    refine go_i2b (q := 22) dX7_addByte_21 rfl ?_
    obtain ⟨g2, h⟩ := g_guard h
    refine go_bast (w2 := wW (sa s 12 ((s.1 18).toNatClampNeg) x1.toInt8.toInt32.toInt8.toInt32)) (q := 23) dX7_addByte_22 (wg_22 _) (inB_in g2) (wa_22 _ _ _) rfl ?_
    refine go_aload_n (q := 24) dX7_addByte_23 rfl rfl ?_
    refine go_dup (q := 25) dX7_addByte_24 rfl rfl ?_
    refine go_get (v := .int (s.1 18)) (q := 28) dX7_addByte_25 fX7_15 (wg_21 _) rfl rfl ?_
    refine go_iconst (v := 1) (q := 29) dX7_addByte_28 (by decide) rfl ?_
    refine go_iadd (q := 30) dX7_addByte_29 rfl ?_
    refine go_put (w2 := wW (ss (sa s 12 ((s.1 18).toNatClampNeg) x1.toInt8.toInt32.toInt8.toInt32) 18 ((s.1 18) + 1))) (q := 33) dX7_addByte_30 fX7_15 (wg_21 _) (Nat.le_of_ble_eq_true rfl) (fun _ => rfl) (fun _ => rfl) (wp_21_1 _ _) rfl ?_
    cases h
    exact go_ret dX7_addByte_33 rfl (Nat.le_refl _) (Nat.le_refl _) ⟨rfl, rfl⟩
theorem t_X7_addByteb (s : gS) (x1 : Int32) (r : gS) (h : f_X7_addByteb s x1 = some r) : Cal 1 mX7_addByte [.ref 21, .int x1] (wW s) 0 0 none (wW r) := Cal.of (by decide) (g_cats rfl) (Nat.le_of_ble_eq_true rfl) (b_X7_addByteb r s x1 h)
def f_X7_addNumberb_17 (s : gS) (x1 : Int32) : Option gS :=
  (f_X7_addByteb s (48 + (x1 - x1 / 10 * 10))).bind fun r1 =>
  some r1
set_option maxHeartbeats 4000000 in
set_option maxRecDepth 100000 in
theorem b_X7_addNumberb_17 (r : gS) : ∀ (s : gS) (x1 : Int32) , f_X7_addNumberb_17 s x1 = some r → Go gTr yX7_addNumber cX7_addNumber 2 none 2 0 0 (fun r9 w9 => r9 = none ∧ w9 = wW r) 0 0 (wW s) 17 [some (.ref 21), some (.int x1)] [] := by
  intro s x1 h
  rw [f_X7_addNumberb_17] at h
  refine go_aload_n (q := 18) dX7_addNumber_17 rfl rfl ?_
  refine go_bipush (v := 48) (q := 20) dX7_addNumber_18 (by decide) rfl ?_
  refine go_iload_n (q := 21) dX7_addNumber_20 rfl rfl ?_
  refine go_bipush (v := 10) (q := 23) dX7_addNumber_21 (by decide) rfl ?_
  refine go_irem (q := 24) dX7_addNumber_23 (by decide) rfl ?_
  refine go_iadd (q := 25) dX7_addNumber_24 rfl ?_
  obtain ⟨r1, e2, h⟩ := g_bind h
  refine go_callV0 (q := 28) (as := [.int (48 + (x1 - x1 / 10 * 10))]) (rest := []) (st2 := []) (w2 := wW r1) dX7_addNumber_25 cX7_19 (t_X7_addByteb s (48 + (x1 - x1 / 10 * 10)) _ e2) (wg_21 _) rfl rfl rfl (Nat.le_of_ble_eq_true rfl) (by decide) ⟨Nat.le_refl _, Nat.le_refl _⟩ rfl rfl ?_
  cases h
  exact go_ret dX7_addNumber_28 rfl (Nat.le_refl _) (Nat.le_refl _) ⟨rfl, rfl⟩
def f_X7_addNumberb (s : gS) (x1 : Int32) : Option gS :=
  if x1 < 10 then
    f_X7_addNumberb_17 s x1
  else
    (f_X7_addByteb s (48 + (x1 / 10))).bind fun r2 =>
    f_X7_addNumberb_17 r2 x1
set_option maxHeartbeats 4000000 in
set_option maxRecDepth 100000 in
theorem b_X7_addNumberb (r : gS) : ∀ (s : gS) (x1 : Int32) , f_X7_addNumberb s x1 = some r → Go gTr yX7_addNumber cX7_addNumber 2 none 2 0 0 (fun r9 w9 => r9 = none ∧ w9 = wW r) 0 0 (wW s) 0 [some (.ref 21), some (.int x1)] [] := by
  intro s x1 h
  rw [f_X7_addNumberb] at h
  refine go_iload_n (q := 1) dX7_addNumber_0 rfl rfl ?_
  refine go_bipush (v := 10) (q := 3) dX7_addNumber_1 (by decide) rfl ?_
  refine go_icmp_lt (tgt := 17) (q := 6) dX7_addNumber_3 (by decide) rfl (fun c1 => ?_) (fun c1 => ?_)
  · replace h := g_pos c1 h
    refine go_ls (ls2 := [some (.ref 21), some (.int x1)]) ⟨rfl, rfl, trivial⟩ ?_
    exact b_X7_addNumberb_17 r s x1 h
  · replace h := g_neg c1 h
    refine go_aload_n (q := 7) dX7_addNumber_6 rfl rfl ?_
    refine go_bipush (v := 48) (q := 9) dX7_addNumber_7 (by decide) rfl ?_
    refine go_iload_n (q := 10) dX7_addNumber_9 rfl rfl ?_
    refine go_bipush (v := 10) (q := 12) dX7_addNumber_10 (by decide) rfl ?_
    refine go_idiv (q := 13) dX7_addNumber_12 (by decide) rfl ?_
    refine go_iadd (q := 14) dX7_addNumber_13 rfl ?_
    obtain ⟨r2, e3, h⟩ := g_bind h
    refine go_callV0 (q := 17) (as := [.int (48 + (x1 / 10))]) (rest := []) (st2 := []) (w2 := wW r2) dX7_addNumber_14 cX7_19 (t_X7_addByteb s (48 + (x1 / 10)) _ e3) (wg_21 _) rfl rfl rfl (Nat.le_of_ble_eq_true rfl) (by decide) ⟨Nat.le_refl _, Nat.le_refl _⟩ rfl rfl ?_
    refine go_ls (ls2 := [some (.ref 21), some (.int x1)]) ⟨rfl, rfl, trivial⟩ ?_
    exact b_X7_addNumberb_17 r r2 x1 h
theorem t_X7_addNumberb (s : gS) (x1 : Int32) (r : gS) (h : f_X7_addNumberb s x1 = some r) : Cal 2 mX7_addNumber [.ref 21, .int x1] (wW s) 0 0 none (wW r) := Cal.of (by decide) (g_cats rfl) (Nat.le_of_ble_eq_true rfl) (b_X7_addNumberb r s x1 h)
def f_X4_writeCellb (s : gS) (x2 : Int32) : Option gS :=
  (f_X0_columnOf x2).bind fun r1 =>
  (f_X7_addByteb s (97 + r1)).bind fun r3 =>
  (f_X0_rowOf x2).bind fun r5 =>
  (f_X7_addByteb r3 (49 + r5)).bind fun r7 =>
  some r7
set_option maxHeartbeats 4000000 in
set_option maxRecDepth 100000 in
theorem b_X4_writeCellb (r : gS) : ∀ (s : gS) (x2 : Int32) , f_X4_writeCellb s x2 = some r → Go gTr yX4_writeCell cX4_writeCell 3 none 3 0 0 (fun r9 w9 => r9 = none ∧ w9 = wW r) 0 0 (wW s) 0 [some (.ref 9), some (.ref 21), some (.int x2)] [] := by
  intro s x2 h
  rw [f_X4_writeCellb] at h
  refine go_aload_n (q := 1) dX4_writeCell_0 rfl rfl ?_
  refine go_bipush (v := 97) (q := 3) dX4_writeCell_1 (by decide) rfl ?_
  refine go_aload_n (q := 4) dX4_writeCell_3 rfl rfl ?_
  refine go_get (v := .ref 1) (q := 7) dX4_writeCell_4 fX4_7 (wg_9 _) rfl rfl ?_
  refine go_iload_n (q := 8) dX4_writeCell_7 rfl rfl ?_
  obtain ⟨r1, e2, h⟩ := g_bind h
  refine go_callV0 (q := 11) (as := [.int x2]) (rest := [.int 97, .ref 21]) (st2 := [.int r1, .int 97, .ref 21]) (w2 := wW s) dX4_writeCell_8 cX4_58 (t_X0_columnOf _ x2 _ e2) (wg_1 _) rfl rfl rfl (Nat.le_of_ble_eq_true rfl) (by decide) ⟨Nat.le_refl _, Nat.le_refl _⟩ rfl rfl ?_
  refine go_iadd (q := 12) dX4_writeCell_11 rfl ?_
  obtain ⟨r3, e4, h⟩ := g_bind h
  refine go_callV0 (q := 15) (as := [.int (97 + r1)]) (rest := []) (st2 := []) (w2 := wW r3) dX4_writeCell_12 cX4_32 (t_X7_addByteb s (97 + r1) _ e4) (wg_21 _) rfl rfl rfl (Nat.le_of_ble_eq_true rfl) (by decide) ⟨Nat.le_refl _, Nat.le_refl _⟩ rfl rfl ?_
  refine go_aload_n (q := 16) dX4_writeCell_15 rfl rfl ?_
  refine go_bipush (v := 49) (q := 18) dX4_writeCell_16 (by decide) rfl ?_
  refine go_aload_n (q := 19) dX4_writeCell_18 rfl rfl ?_
  refine go_get (v := .ref 1) (q := 22) dX4_writeCell_19 fX4_7 (wg_9 _) rfl rfl ?_
  refine go_iload_n (q := 23) dX4_writeCell_22 rfl rfl ?_
  obtain ⟨r5, e6, h⟩ := g_bind h
  refine go_callV0 (q := 26) (as := [.int x2]) (rest := [.int 49, .ref 21]) (st2 := [.int r5, .int 49, .ref 21]) (w2 := wW r3) dX4_writeCell_23 cX4_63 (t_X0_rowOf _ x2 _ e6) (wg_1 _) rfl rfl rfl (Nat.le_of_ble_eq_true rfl) (by decide) ⟨Nat.le_refl _, Nat.le_refl _⟩ rfl rfl ?_
  refine go_iadd (q := 27) dX4_writeCell_26 rfl ?_
  obtain ⟨r7, e8, h⟩ := g_bind h
  refine go_callV0 (q := 30) (as := [.int (49 + r5)]) (rest := []) (st2 := []) (w2 := wW r7) dX4_writeCell_27 cX4_32 (t_X7_addByteb r3 (49 + r5) _ e8) (wg_21 _) rfl rfl rfl (Nat.le_of_ble_eq_true rfl) (by decide) ⟨Nat.le_refl _, Nat.le_refl _⟩ rfl rfl ?_
  cases h
  exact go_ret dX4_writeCell_30 rfl (Nat.le_refl _) (Nat.le_refl _) ⟨rfl, rfl⟩
theorem t_X4_writeCellb (s : gS) (x2 : Int32) (r : gS) (h : f_X4_writeCellb s x2 = some r) : Cal 3 mX4_writeCell [.ref 9, .ref 21, .int x2] (wW s) 0 0 none (wW r) := Cal.of (by decide) (g_cats rfl) (Nat.le_of_ble_eq_true rfl) (b_X4_writeCellb r s x2 h)
def f_X4_writeSignsb_3 : Nat → gS → Int32 → Int32 → Int32 → Option gS
  | 0, _, _, _, _ => none
  | φ + 1, s, x2, x3, x4 =>
    if x3 ≤ x4 then
      some s
    else
      (f_X7_addByteb s x2).bind fun r2 =>
      f_X4_writeSignsb_3 φ r2 x2 x3 (x4 + 1)
set_option maxHeartbeats 4000000 in
set_option maxRecDepth 100000 in
theorem b_X4_writeSignsb_3 (r : gS) : ∀ (φ : Nat) (s : gS) (x2 : Int32) (x3 : Int32) (x4 : Int32) , f_X4_writeSignsb_3 φ s x2 x3 x4 = some r → Go gTr yX4_writeSigns cX4_writeSigns 5 none 2 0 0 (fun r9 w9 => r9 = none ∧ w9 = wW r) 0 0 (wW s) 3 [none, some (.ref 21), some (.int x2), some (.int x3), some (.int x4)] [] := by
  intro φ
  induction φ with
  | zero =>
    intro s x2 x3 x4 h
    exact absurd h (by intro h0; cases h0)
  | succ φ ih =>
    intro s x2 x3 x4 h
    rw [f_X4_writeSignsb_3] at h
    refine go_iload (q := 5) dX4_writeSigns_3 rfl rfl ?_
    refine go_iload_n (q := 6) dX4_writeSigns_5 rfl rfl ?_
    refine go_icmp_ge (tgt := 20) (q := 9) dX4_writeSigns_6 (by decide) rfl (fun c1 => ?_) (fun c1 => ?_)
    · replace h := g_pos c1 h
      cases h
      exact go_ret dX4_writeSigns_20 rfl (Nat.le_refl _) (Nat.le_refl _) ⟨rfl, rfl⟩
    · replace h := g_neg c1 h
      refine go_aload_n (q := 10) dX4_writeSigns_9 rfl rfl ?_
      refine go_iload_n (q := 11) dX4_writeSigns_10 rfl rfl ?_
      obtain ⟨r2, e3, h⟩ := g_bind h
      refine go_callV0 (q := 14) (as := [.int x2]) (rest := []) (st2 := []) (w2 := wW r2) dX4_writeSigns_11 cX4_32 (t_X7_addByteb s x2 _ e3) (wg_21 _) rfl rfl rfl (Nat.le_of_ble_eq_true rfl) (by decide) ⟨Nat.le_refl _, Nat.le_refl _⟩ rfl rfl ?_
      refine go_iinc (v := x4 + 1) (ls2 := [none, some (.ref 21), some (.int x2), some (.int x3), some (.int (x4 + 1))]) (q := 17) dX4_writeSigns_14 (by decide) rfl rfl rfl rfl ?_
      refine go_goto (tgt := 3) dX4_writeSigns_17 (by decide) ?_
      refine go_ls (ls2 := [none, some (.ref 21), some (.int x2), some (.int x3), some (.int (x4 + 1))]) ⟨rfl, rfl, rfl, rfl, trivial⟩ ?_
      exact ih r2 x2 x3 (x4 + 1) h
def f_X4_writeSignsb (s : gS) (x2 : Int32) (x3 : Int32) : Option gS :=
  f_X4_writeSignsb_3 gφ s x2 x3 0
set_option maxHeartbeats 4000000 in
set_option maxRecDepth 100000 in
theorem b_X4_writeSignsb (r : gS) : ∀ (s : gS) (x2 : Int32) (x3 : Int32) , f_X4_writeSignsb s x2 x3 = some r → Go gTr yX4_writeSigns cX4_writeSigns 5 none 2 0 0 (fun r9 w9 => r9 = none ∧ w9 = wW r) 0 0 (wW s) 0 [some (.ref 9), some (.ref 21), some (.int x2), some (.int x3), none] [] := by
  intro s x2 x3 h
  rw [f_X4_writeSignsb] at h
  refine go_iconst (v := 0) (q := 1) dX4_writeSigns_0 (by decide) rfl ?_
  refine go_istore (ls2 := [some (.ref 9), some (.ref 21), some (.int x2), some (.int x3), some (.int 0)]) (q := 3) dX4_writeSigns_1 (by decide) rfl rfl ?_
  refine go_ls (ls2 := [none, some (.ref 21), some (.int x2), some (.int x3), some (.int 0)]) ⟨rfl, rfl, rfl, rfl, trivial⟩ ?_
  exact b_X4_writeSignsb_3 r gφ s x2 x3 0 h
theorem t_X4_writeSignsb (s : gS) (x2 : Int32) (x3 : Int32) (r : gS) (h : f_X4_writeSignsb s x2 x3 = some r) : Cal 2 mX4_writeSigns [.ref 9, .ref 21, .int x2, .int x3] (wW s) 0 0 none (wW r) := Cal.of (by decide) (g_cats rfl) (Nat.le_of_ble_eq_true rfl) (b_X4_writeSignsb r s x2 x3 h)
def f_X4_writeWordsb_137 (s : gS) (x2 : Int32) (x3 : Int32) : Option gS :=
  if x3 = 1 then
    (f_X2_amountOf s x2 5).bind fun r2 =>
    (f_X4_writeSignsb s 61 r2).bind fun r4 =>
    some r4
  else
    some s
set_option maxHeartbeats 4000000 in
set_option maxRecDepth 100000 in
theorem b_X4_writeWordsb_137 (r : gS) : ∀ (s : gS) (x2 : Int32) (x3 : Int32) , f_X4_writeWordsb_137 s x2 x3 = some r → Go gTr yX4_writeWords cX4_writeWords 6 none 5 0 0 (fun r9 w9 => r9 = none ∧ w9 = wW r) 0 0 (wW s) 137 [some (.ref 9), some (.ref 21), some (.int x2), some (.int x3), none, none] [] := by
  intro s x2 x3 h
  rw [f_X4_writeWordsb_137] at h
  refine go_iload_n (q := 138) dX4_writeWords_137 rfl rfl ?_
  refine go_iconst (v := 1) (q := 139) dX4_writeWords_138 (by decide) rfl ?_
  refine go_icmp_ne (tgt := 158) (q := 142) dX4_writeWords_139 (by decide) rfl (fun c1 => ?_) (fun c1 => ?_)
  · replace h := g_neg c1 h
    cases h
    exact go_ret dX4_writeWords_158 rfl (Nat.le_refl _) (Nat.le_refl _) ⟨rfl, rfl⟩
  · replace h := g_pos c1 h
    refine go_aload_n (q := 143) dX4_writeWords_142 rfl rfl ?_
    refine go_aload_n (q := 144) dX4_writeWords_143 rfl rfl ?_
    refine go_bipush (v := 61) (q := 146) dX4_writeWords_144 (by decide) rfl ?_
    refine go_aload_n (q := 147) dX4_writeWords_146 rfl rfl ?_
    refine go_get (v := .ref 5) (q := 150) dX4_writeWords_147 fX4_17 (wg_9 _) rfl rfl ?_
    refine go_iload_n (q := 151) dX4_writeWords_150 rfl rfl ?_
    refine go_iconst (v := 5) (q := 152) dX4_writeWords_151 (by decide) rfl ?_
    obtain ⟨r2, e3, h⟩ := g_bind h
    refine go_callV0 (q := 155) (as := [.int x2, .int 5]) (rest := [.int 61, .ref 21, .ref 9]) (st2 := [.int r2, .int 61, .ref 21, .ref 9]) (w2 := wW s) dX4_writeWords_152 cX4_47 (t_X2_amountOf s x2 5 _ e3) (wg_5 _) rfl rfl rfl (Nat.le_of_ble_eq_true rfl) (by decide) ⟨Nat.le_refl _, Nat.le_refl _⟩ rfl rfl ?_
    obtain ⟨r4, e5, h⟩ := g_bind h
    refine go_callV0 (q := 158) (as := [.ref 21, .int 61, .int r2]) (rest := []) (st2 := []) (w2 := wW r4) dX4_writeWords_155 cX4_51 (t_X4_writeSignsb s 61 r2 _ e5) (wg_9 _) rfl rfl rfl (Nat.le_of_ble_eq_true rfl) (by decide) ⟨Nat.le_refl _, Nat.le_refl _⟩ rfl rfl ?_
    cases h
    exact go_ret dX4_writeWords_158 rfl (Nat.le_refl _) (Nat.le_refl _) ⟨rfl, rfl⟩
def f_X4_writeWordsb_105 (s : gS) (x2 : Int32) (x3 : Int32) : Option gS :=
  (f_X2_missedBy s x2).bind fun r1 =>
  if r1 = 0 then
    f_X4_writeWordsb_137 s x2 x3
  else
    (f_X7_addByteb s 42).bind fun r4 =>
    (f_X4_writeCellb r4 (r1 &&& (-r1))).bind fun r6 =>
    f_X4_writeWordsb_137 r6 x2 x3
set_option maxHeartbeats 4000000 in
set_option maxRecDepth 100000 in
theorem b_X4_writeWordsb_105 (r : gS) : ∀ (s : gS) (x2 : Int32) (x3 : Int32) , f_X4_writeWordsb_105 s x2 x3 = some r → Go gTr yX4_writeWords cX4_writeWords 6 none 5 0 0 (fun r9 w9 => r9 = none ∧ w9 = wW r) 0 0 (wW s) 105 [some (.ref 9), some (.ref 21), some (.int x2), some (.int x3), none, none] [] := by
  intro s x2 x3 h
  rw [f_X4_writeWordsb_105] at h
  refine go_aload_n (q := 106) dX4_writeWords_105 rfl rfl ?_
  refine go_get (v := .ref 5) (q := 109) dX4_writeWords_106 fX4_17 (wg_9 _) rfl rfl ?_
  refine go_iload_n (q := 110) dX4_writeWords_109 rfl rfl ?_
  obtain ⟨r1, e2, h⟩ := g_bind h
  refine go_callV0 (q := 113) (as := [.int x2]) (rest := []) (st2 := [.int r1]) (w2 := wW s) dX4_writeWords_110 cX4_55 (t_X2_missedBy s x2 _ e2) (wg_5 _) rfl rfl rfl (Nat.le_of_ble_eq_true rfl) (by decide) ⟨Nat.le_refl _, Nat.le_refl _⟩ rfl rfl ?_
  refine go_istore (ls2 := [some (.ref 9), some (.ref 21), some (.int x2), some (.int x3), none, some (.int r1)]) (q := 115) dX4_writeWords_113 (by decide) rfl rfl ?_
  refine go_iload (q := 117) dX4_writeWords_115 rfl rfl ?_
  refine go_if_eq (tgt := 137) (q := 120) dX4_writeWords_117 (by decide) rfl (fun c3 => ?_) (fun c3 => ?_)
  · replace h := g_pos c3 h
    refine go_ls (ls2 := [some (.ref 9), some (.ref 21), some (.int x2), some (.int x3), none, none]) ⟨rfl, rfl, rfl, rfl, trivial⟩ ?_
    exact b_X4_writeWordsb_137 r s x2 x3 h
  · replace h := g_neg c3 h
    refine go_aload_n (q := 121) dX4_writeWords_120 rfl rfl ?_
    refine go_bipush (v := 42) (q := 123) dX4_writeWords_121 (by decide) rfl ?_
    obtain ⟨r4, e5, h⟩ := g_bind h
    refine go_callV0 (q := 126) (as := [.int 42]) (rest := []) (st2 := []) (w2 := wW r4) dX4_writeWords_123 cX4_32 (t_X7_addByteb s 42 _ e5) (wg_21 _) rfl rfl rfl (Nat.le_of_ble_eq_true rfl) (by decide) ⟨Nat.le_refl _, Nat.le_refl _⟩ rfl rfl ?_
    refine go_aload_n (q := 127) dX4_writeWords_126 rfl rfl ?_
    refine go_aload_n (q := 128) dX4_writeWords_127 rfl rfl ?_
    refine go_iload (q := 130) dX4_writeWords_128 rfl rfl ?_
    refine go_iload (q := 132) dX4_writeWords_130 rfl rfl ?_
    refine go_ineg (q := 133) dX4_writeWords_132 rfl ?_
    refine go_iand (q := 134) dX4_writeWords_133 rfl ?_
    obtain ⟨r6, e7, h⟩ := g_bind h
    refine go_callV0 (q := 137) (as := [.ref 21, .int (r1 &&& (-r1))]) (rest := []) (st2 := []) (w2 := wW r6) dX4_writeWords_134 cX4_41 (t_X4_writeCellb r4 (r1 &&& (-r1)) _ e7) (wg_9 _) rfl rfl rfl (Nat.le_of_ble_eq_true rfl) (by decide) ⟨Nat.le_refl _, Nat.le_refl _⟩ rfl rfl ?_
    refine go_ls (ls2 := [some (.ref 9), some (.ref 21), some (.int x2), some (.int x3), none, none]) ⟨rfl, rfl, rfl, rfl, trivial⟩ ?_
    exact b_X4_writeWordsb_137 r r6 x2 x3 h
def f_X4_writeWordsb_68 (s : gS) (x2 : Int32) (x3 : Int32) : Option gS :=
  if x3 = 1 then
    (f_X2_amountOf s x2 2).bind fun r2 =>
    (f_X4_writeSignsb s 33 r2).bind fun r4 =>
    (f_X2_amountOf r4 x2 3).bind fun r6 =>
    (f_X4_writeSignsb r4 63 r6).bind fun r8 =>
    f_X4_writeWordsb_105 r8 x2 x3
  else
    f_X4_writeWordsb_105 s x2 x3
set_option maxHeartbeats 4000000 in
set_option maxRecDepth 100000 in
theorem b_X4_writeWordsb_68 (r : gS) : ∀ (s : gS) (x2 : Int32) (x3 : Int32) , f_X4_writeWordsb_68 s x2 x3 = some r → Go gTr yX4_writeWords cX4_writeWords 6 none 5 0 0 (fun r9 w9 => r9 = none ∧ w9 = wW r) 0 0 (wW s) 68 [some (.ref 9), some (.ref 21), some (.int x2), some (.int x3), none, none] [] := by
  intro s x2 x3 h
  rw [f_X4_writeWordsb_68] at h
  refine go_iload_n (q := 69) dX4_writeWords_68 rfl rfl ?_
  refine go_iconst (v := 1) (q := 70) dX4_writeWords_69 (by decide) rfl ?_
  refine go_icmp_ne (tgt := 105) (q := 73) dX4_writeWords_70 (by decide) rfl (fun c1 => ?_) (fun c1 => ?_)
  · replace h := g_neg c1 h
    refine go_ls (ls2 := [some (.ref 9), some (.ref 21), some (.int x2), some (.int x3), none, none]) ⟨rfl, rfl, rfl, rfl, trivial⟩ ?_
    exact b_X4_writeWordsb_105 r s x2 x3 h
  · replace h := g_pos c1 h
    refine go_aload_n (q := 74) dX4_writeWords_73 rfl rfl ?_
    refine go_aload_n (q := 75) dX4_writeWords_74 rfl rfl ?_
    refine go_bipush (v := 33) (q := 77) dX4_writeWords_75 (by decide) rfl ?_
    refine go_aload_n (q := 78) dX4_writeWords_77 rfl rfl ?_
    refine go_get (v := .ref 5) (q := 81) dX4_writeWords_78 fX4_17 (wg_9 _) rfl rfl ?_
    refine go_iload_n (q := 82) dX4_writeWords_81 rfl rfl ?_
    refine go_iconst (v := 2) (q := 83) dX4_writeWords_82 (by decide) rfl ?_
    obtain ⟨r2, e3, h⟩ := g_bind h
    refine go_callV0 (q := 86) (as := [.int x2, .int 2]) (rest := [.int 33, .ref 21, .ref 9]) (st2 := [.int r2, .int 33, .ref 21, .ref 9]) (w2 := wW s) dX4_writeWords_83 cX4_47 (t_X2_amountOf s x2 2 _ e3) (wg_5 _) rfl rfl rfl (Nat.le_of_ble_eq_true rfl) (by decide) ⟨Nat.le_refl _, Nat.le_refl _⟩ rfl rfl ?_
    obtain ⟨r4, e5, h⟩ := g_bind h
    refine go_callV0 (q := 89) (as := [.ref 21, .int 33, .int r2]) (rest := []) (st2 := []) (w2 := wW r4) dX4_writeWords_86 cX4_51 (t_X4_writeSignsb s 33 r2 _ e5) (wg_9 _) rfl rfl rfl (Nat.le_of_ble_eq_true rfl) (by decide) ⟨Nat.le_refl _, Nat.le_refl _⟩ rfl rfl ?_
    refine go_aload_n (q := 90) dX4_writeWords_89 rfl rfl ?_
    refine go_aload_n (q := 91) dX4_writeWords_90 rfl rfl ?_
    refine go_bipush (v := 63) (q := 93) dX4_writeWords_91 (by decide) rfl ?_
    refine go_aload_n (q := 94) dX4_writeWords_93 rfl rfl ?_
    refine go_get (v := .ref 5) (q := 97) dX4_writeWords_94 fX4_17 (wg_9 _) rfl rfl ?_
    refine go_iload_n (q := 98) dX4_writeWords_97 rfl rfl ?_
    refine go_iconst (v := 3) (q := 99) dX4_writeWords_98 (by decide) rfl ?_
    obtain ⟨r6, e7, h⟩ := g_bind h
    refine go_callV0 (q := 102) (as := [.int x2, .int 3]) (rest := [.int 63, .ref 21, .ref 9]) (st2 := [.int r6, .int 63, .ref 21, .ref 9]) (w2 := wW r4) dX4_writeWords_99 cX4_47 (t_X2_amountOf r4 x2 3 _ e7) (wg_5 _) rfl rfl rfl (Nat.le_of_ble_eq_true rfl) (by decide) ⟨Nat.le_refl _, Nat.le_refl _⟩ rfl rfl ?_
    obtain ⟨r8, e9, h⟩ := g_bind h
    refine go_callV0 (q := 105) (as := [.ref 21, .int 63, .int r6]) (rest := []) (st2 := []) (w2 := wW r8) dX4_writeWords_102 cX4_51 (t_X4_writeSignsb r4 63 r6 _ e9) (wg_9 _) rfl rfl rfl (Nat.le_of_ble_eq_true rfl) (by decide) ⟨Nat.le_refl _, Nat.le_refl _⟩ rfl rfl ?_
    refine go_ls (ls2 := [some (.ref 9), some (.ref 21), some (.int x2), some (.int x3), none, none]) ⟨rfl, rfl, rfl, rfl, trivial⟩ ?_
    exact b_X4_writeWordsb_105 r r8 x2 x3 h
def f_X4_writeWordsb (s : gS) (x2 : Int32) (x3 : Int32) : Option gS :=
  (f_X7_addNumberb s x2).bind fun r1 =>
  (f_X7_addByteb r1 46).bind fun r3 =>
  (f_X3_bitOfMove r3 x2).bind fun r5 =>
  (f_X4_writeCellb r3 r5).bind fun r7 =>
  (f_X2_amountOf r7 x2 0).bind fun r9 =>
  (f_X4_writeSignsb r7 35 r9).bind fun r11 =>
  (f_X2_amountOf r11 x2 1).bind fun r13 =>
  if r13 ≤ 0 then
    f_X4_writeWordsb_68 r11 x2 x3
  else
    (f_X7_addByteb r11 43).bind fun r16 =>
    (f_X7_addNumberb r16 r13).bind fun r18 =>
    f_X4_writeWordsb_68 r18 x2 x3
set_option maxHeartbeats 4000000 in
set_option maxRecDepth 100000 in
theorem b_X4_writeWordsb (r : gS) : ∀ (s : gS) (x2 : Int32) (x3 : Int32) , f_X4_writeWordsb s x2 x3 = some r → Go gTr yX4_writeWords cX4_writeWords 6 none 5 0 0 (fun r9 w9 => r9 = none ∧ w9 = wW r) 0 0 (wW s) 0 [some (.ref 9), some (.ref 21), some (.int x2), some (.int x3), none, none] [] := by
  intro s x2 x3 h
  rw [f_X4_writeWordsb] at h
  refine go_aload_n (q := 1) dX4_writeWords_0 rfl rfl ?_
  refine go_iload_n (q := 2) dX4_writeWords_1 rfl rfl ?_
  obtain ⟨r1, e2, h⟩ := g_bind h
  refine go_callV0 (q := 5) (as := [.int x2]) (rest := []) (st2 := []) (w2 := wW r1) dX4_writeWords_2 cX4_28 (t_X7_addNumberb s x2 _ e2) (wg_21 _) rfl rfl rfl (Nat.le_of_ble_eq_true rfl) (by decide) ⟨Nat.le_refl _, Nat.le_refl _⟩ rfl rfl ?_
  refine go_aload_n (q := 6) dX4_writeWords_5 rfl rfl ?_
  refine go_bipush (v := 46) (q := 8) dX4_writeWords_6 (by decide) rfl ?_
  obtain ⟨r3, e4, h⟩ := g_bind h
  refine go_callV0 (q := 11) (as := [.int 46]) (rest := []) (st2 := []) (w2 := wW r3) dX4_writeWords_8 cX4_32 (t_X7_addByteb r1 46 _ e4) (wg_21 _) rfl rfl rfl (Nat.le_of_ble_eq_true rfl) (by decide) ⟨Nat.le_refl _, Nat.le_refl _⟩ rfl rfl ?_
  refine go_aload_n (q := 12) dX4_writeWords_11 rfl rfl ?_
  refine go_aload_n (q := 13) dX4_writeWords_12 rfl rfl ?_
  refine go_aload_n (q := 14) dX4_writeWords_13 rfl rfl ?_
  refine go_get (v := .ref 2) (q := 17) dX4_writeWords_14 fX4_13 (wg_9 _) rfl rfl ?_
  refine go_iload_n (q := 18) dX4_writeWords_17 rfl rfl ?_
  obtain ⟨r5, e6, h⟩ := g_bind h
  refine go_callV0 (q := 21) (as := [.int x2]) (rest := [.ref 21, .ref 9]) (st2 := [.int r5, .ref 21, .ref 9]) (w2 := wW r3) dX4_writeWords_18 cX4_35 (t_X3_bitOfMove r3 x2 _ e6) (wg_2 _) rfl rfl rfl (Nat.le_of_ble_eq_true rfl) (by decide) ⟨Nat.le_refl _, Nat.le_refl _⟩ rfl rfl ?_
  obtain ⟨r7, e8, h⟩ := g_bind h
  refine go_callV0 (q := 24) (as := [.ref 21, .int r5]) (rest := []) (st2 := []) (w2 := wW r7) dX4_writeWords_21 cX4_41 (t_X4_writeCellb r3 r5 _ e8) (wg_9 _) rfl rfl rfl (Nat.le_of_ble_eq_true rfl) (by decide) ⟨Nat.le_refl _, Nat.le_refl _⟩ rfl rfl ?_
  refine go_aload_n (q := 25) dX4_writeWords_24 rfl rfl ?_
  refine go_aload_n (q := 26) dX4_writeWords_25 rfl rfl ?_
  refine go_bipush (v := 35) (q := 28) dX4_writeWords_26 (by decide) rfl ?_
  refine go_aload_n (q := 29) dX4_writeWords_28 rfl rfl ?_
  refine go_get (v := .ref 5) (q := 32) dX4_writeWords_29 fX4_17 (wg_9 _) rfl rfl ?_
  refine go_iload_n (q := 33) dX4_writeWords_32 rfl rfl ?_
  refine go_iconst (v := 0) (q := 34) dX4_writeWords_33 (by decide) rfl ?_
  obtain ⟨r9, e10, h⟩ := g_bind h
  refine go_callV0 (q := 37) (as := [.int x2, .int 0]) (rest := [.int 35, .ref 21, .ref 9]) (st2 := [.int r9, .int 35, .ref 21, .ref 9]) (w2 := wW r7) dX4_writeWords_34 cX4_47 (t_X2_amountOf r7 x2 0 _ e10) (wg_5 _) rfl rfl rfl (Nat.le_of_ble_eq_true rfl) (by decide) ⟨Nat.le_refl _, Nat.le_refl _⟩ rfl rfl ?_
  obtain ⟨r11, e12, h⟩ := g_bind h
  refine go_callV0 (q := 40) (as := [.ref 21, .int 35, .int r9]) (rest := []) (st2 := []) (w2 := wW r11) dX4_writeWords_37 cX4_51 (t_X4_writeSignsb r7 35 r9 _ e12) (wg_9 _) rfl rfl rfl (Nat.le_of_ble_eq_true rfl) (by decide) ⟨Nat.le_refl _, Nat.le_refl _⟩ rfl rfl ?_
  refine go_aload_n (q := 41) dX4_writeWords_40 rfl rfl ?_
  refine go_get (v := .ref 5) (q := 44) dX4_writeWords_41 fX4_17 (wg_9 _) rfl rfl ?_
  refine go_iload_n (q := 45) dX4_writeWords_44 rfl rfl ?_
  refine go_iconst (v := 1) (q := 46) dX4_writeWords_45 (by decide) rfl ?_
  obtain ⟨r13, e14, h⟩ := g_bind h
  refine go_callV0 (q := 49) (as := [.int x2, .int 1]) (rest := []) (st2 := [.int r13]) (w2 := wW r11) dX4_writeWords_46 cX4_47 (t_X2_amountOf r11 x2 1 _ e14) (wg_5 _) rfl rfl rfl (Nat.le_of_ble_eq_true rfl) (by decide) ⟨Nat.le_refl _, Nat.le_refl _⟩ rfl rfl ?_
  refine go_istore (ls2 := [some (.ref 9), some (.ref 21), some (.int x2), some (.int x3), some (.int r13), none]) (q := 51) dX4_writeWords_49 (by decide) rfl rfl ?_
  refine go_iload (q := 53) dX4_writeWords_51 rfl rfl ?_
  refine go_if_le (tgt := 68) (q := 56) dX4_writeWords_53 (by decide) rfl (fun c15 => ?_) (fun c15 => ?_)
  · replace h := g_pos c15 h
    refine go_ls (ls2 := [some (.ref 9), some (.ref 21), some (.int x2), some (.int x3), none, none]) ⟨rfl, rfl, rfl, rfl, trivial⟩ ?_
    exact b_X4_writeWordsb_68 r r11 x2 x3 h
  · replace h := g_neg c15 h
    refine go_aload_n (q := 57) dX4_writeWords_56 rfl rfl ?_
    refine go_bipush (v := 43) (q := 59) dX4_writeWords_57 (by decide) rfl ?_
    obtain ⟨r16, e17, h⟩ := g_bind h
    refine go_callV0 (q := 62) (as := [.int 43]) (rest := []) (st2 := []) (w2 := wW r16) dX4_writeWords_59 cX4_32 (t_X7_addByteb r11 43 _ e17) (wg_21 _) rfl rfl rfl (Nat.le_of_ble_eq_true rfl) (by decide) ⟨Nat.le_refl _, Nat.le_refl _⟩ rfl rfl ?_
    refine go_aload_n (q := 63) dX4_writeWords_62 rfl rfl ?_
    refine go_iload (q := 65) dX4_writeWords_63 rfl rfl ?_
    obtain ⟨r18, e19, h⟩ := g_bind h
    refine go_callV0 (q := 68) (as := [.int r13]) (rest := []) (st2 := []) (w2 := wW r18) dX4_writeWords_65 cX4_28 (t_X7_addNumberb r16 r13 _ e19) (wg_21 _) rfl rfl rfl (Nat.le_of_ble_eq_true rfl) (by decide) ⟨Nat.le_refl _, Nat.le_refl _⟩ rfl rfl ?_
    refine go_ls (ls2 := [some (.ref 9), some (.ref 21), some (.int x2), some (.int x3), none, none]) ⟨rfl, rfl, rfl, rfl, trivial⟩ ?_
    exact b_X4_writeWordsb_68 r r18 x2 x3 h
theorem t_X4_writeWordsb (s : gS) (x2 : Int32) (x3 : Int32) (r : gS) (h : f_X4_writeWordsb s x2 x3 = some r) : Cal 5 mX4_writeWords [.ref 9, .ref 21, .int x2, .int x3] (wW s) 0 0 none (wW r) := Cal.of (by decide) (g_cats rfl) (Nat.le_of_ble_eq_true rfl) (b_X4_writeWordsb r s x2 x3 h)
def f_X8_words (s : gS) (x1 : Int32) (x2 : Int32) : Option (Int32 × gS) :=
  (f_X8_isMove s x1).bind fun r1 =>
  if r1 = 0 then
    some ((-1 : Int32), s)
  else
    (f_X4_isLevel x2).bind fun r4 =>
    if r4 = 0 then
      some ((-1 : Int32), s)
    else
      (f_X2_examine s).bind fun r7 =>
      (f_X7_clearb r7).bind fun r9 =>
      (f_X4_writeWordsb r9 x1 x2).bind fun r11 =>
      some (r11.1 18, r11)
set_option maxHeartbeats 4000000 in
set_option maxRecDepth 100000 in
theorem b_X8_words (r : Int32 × gS) : ∀ (s : gS) (x1 : Int32) (x2 : Int32) , f_X8_words s x1 x2 = some r → Go gTr yX8_words cX8_words 3 (some .int) 15 0 0 (fun r9 w9 => r9 = some (.int r.1) ∧ w9 = wW r.2) 0 0 (wW s) 0 [some (.ref 0), some (.int x1), some (.int x2)] [] := by
  intro s x1 x2 h
  rw [f_X8_words] at h
  refine go_aload_n (q := 1) dX8_words_0 rfl rfl ?_
  refine go_iload_n (q := 2) dX8_words_1 rfl rfl ?_
  obtain ⟨r1, e2, h⟩ := g_bind h
  refine go_callV0 (q := 5) (as := [.int x1]) (rest := []) (st2 := [.int r1]) (w2 := wW s) dX8_words_2 cX8_127 (t_X8_isMove s x1 _ e2) (wg_0 _) rfl rfl rfl (Nat.le_of_ble_eq_true rfl) (by decide) ⟨Nat.le_refl _, Nat.le_refl _⟩ rfl rfl ?_
  refine go_if_eq (tgt := 15) (q := 8) dX8_words_5 (by decide) rfl (fun c3 => ?_) (fun c3 => ?_)
  · replace h := g_pos c3 h
    refine go_iconst (v := (-1 : Int32)) (q := 16) dX8_words_15 (by decide) rfl ?_
    cases h
    exact go_iret dX8_words_16 rfl rfl (Nat.le_refl _) (Nat.le_refl _) ⟨rfl, rfl⟩
  · replace h := g_neg c3 h
    refine go_iload_n (q := 9) dX8_words_8 rfl rfl ?_
    obtain ⟨r4, e5, h⟩ := g_bind h
    refine go_callS0 (q := 12) (as := [.int x2]) (rest := []) (st2 := [.int r4]) (w2 := wW s) dX8_words_9 cX8_142 (t_X4_isLevel _ x2 _ e5) rfl rfl (Nat.le_of_ble_eq_true rfl) (by decide) ⟨Nat.le_refl _, Nat.le_refl _⟩ rfl rfl ?_
    refine go_if_ne (tgt := 17) (q := 15) dX8_words_12 (by decide) rfl (fun c6 => ?_) (fun c6 => ?_)
    · replace h := g_neg c6 h
      refine go_aload_n (q := 18) dX8_words_17 rfl rfl ?_
      refine go_get (v := .ref 5) (q := 21) dX8_words_18 fX8_37 (wg_0 _) rfl rfl ?_
      obtain ⟨r7, e8, h⟩ := g_bind h
      refine go_callV0 (q := 24) (as := []) (rest := []) (st2 := []) (w2 := wW r7) dX8_words_21 cX8_130 (t_X2_examine s _ e8) (wg_5 _) rfl rfl rfl (Nat.le_of_ble_eq_true rfl) (by decide) ⟨Nat.le_refl _, Nat.le_refl _⟩ rfl rfl ?_
      refine go_aload_n (q := 25) dX8_words_24 rfl rfl ?_
      refine go_get (v := .ref 21) (q := 28) dX8_words_25 fX8_67 (wg_0 _) rfl rfl ?_
      obtain ⟨r9, e10, h⟩ := g_bind h
      refine go_callV0 (q := 31) (as := []) (rest := []) (st2 := []) (w2 := wW r9) dX8_words_28 cX8_145 (t_X7_clearb r7 _ e10) (wg_21 _) rfl rfl rfl (Nat.le_of_ble_eq_true rfl) (by decide) ⟨Nat.le_refl _, Nat.le_refl _⟩ rfl rfl ?_
      refine go_aload_n (q := 32) dX8_words_31 rfl rfl ?_
      refine go_get (v := .ref 9) (q := 35) dX8_words_32 fX8_46 (wg_0 _) rfl rfl ?_
      refine go_aload_n (q := 36) dX8_words_35 rfl rfl ?_
      refine go_get (v := .ref 21) (q := 39) dX8_words_36 fX8_67 (wg_0 _) rfl rfl ?_
      refine go_iload_n (q := 40) dX8_words_39 rfl rfl ?_
      refine go_iload_n (q := 41) dX8_words_40 rfl rfl ?_
      obtain ⟨r11, e12, h⟩ := g_bind h
      refine go_callV0 (q := 44) (as := [.ref 21, .int x1, .int x2]) (rest := []) (st2 := []) (w2 := wW r11) dX8_words_41 cX8_146 (t_X4_writeWordsb r9 x1 x2 _ e12) (wg_9 _) rfl rfl rfl (Nat.le_of_ble_eq_true rfl) (by decide) ⟨Nat.le_refl _, Nat.le_refl _⟩ rfl rfl ?_
      refine go_aload_n (q := 45) dX8_words_44 rfl rfl ?_
      refine go_get (v := .ref 21) (q := 48) dX8_words_45 fX8_67 (wg_0 _) rfl rfl ?_
      refine go_get (v := .int (r11.1 18)) (q := 51) dX8_words_48 fX8_150 (wg_21 _) rfl rfl ?_
      cases h
      exact go_iret dX8_words_51 rfl rfl (Nat.le_refl _) (Nat.le_refl _) ⟨rfl, rfl⟩
    · replace h := g_pos c6 h
      refine go_iconst (v := (-1 : Int32)) (q := 16) dX8_words_15 (by decide) rfl ?_
      cases h
      exact go_iret dX8_words_16 rfl rfl (Nat.le_refl _) (Nat.le_refl _) ⟨rfl, rfl⟩
theorem t_X8_words (s : gS) (x1 : Int32) (x2 : Int32) (r : Int32 × gS) (h : f_X8_words s x1 x2 = some r) : Cal 15 mX8_words [.ref 0, .int x1, .int x2] (wW s) 0 0 (some (.int r.1)) (wW r.2) := Cal.of (by decide) (g_cats rfl) (Nat.le_of_ble_eq_true rfl) (b_X8_words r s x1 x2 h)
def f_X8_tale_50 (K25 : gS → Int32 → Int32 → Option (Int32 × gS)) (s : gS) (x1 : Int32) (x2 : Int32) : Option (Int32 × gS) :=
  (f_X4_writeWordsb s x2 x1).bind fun r1 =>
  K25 r1 x1 (x2 + 1)
set_option maxHeartbeats 4000000 in
set_option maxRecDepth 100000 in
theorem b_X8_tale_50 (K25 : gS → Int32 → Int32 → Option (Int32 × gS)) (r : Int32 × gS) (hK25 : ∀ (s : gS) (x1 : Int32) (x2 : Int32) , K25 s x1 x2 = some r → Go gTr yX8_tale cX8_tale 3 (some .int) 15 0 0 (fun r9 w9 => r9 = some (.int r.1) ∧ w9 = wW r.2) 0 0 (wW s) 25 [some (.ref 0), some (.int x1), some (.int x2)] []) : ∀ (s : gS) (x1 : Int32) (x2 : Int32) , f_X8_tale_50 K25 s x1 x2 = some r → Go gTr yX8_tale cX8_tale 3 (some .int) 15 0 0 (fun r9 w9 => r9 = some (.int r.1) ∧ w9 = wW r.2) 0 0 (wW s) 50 [some (.ref 0), some (.int x1), some (.int x2)] [] := by
  intro s x1 x2 h
  rw [f_X8_tale_50] at h
  refine go_aload_n (q := 51) dX8_tale_50 rfl rfl ?_
  refine go_get (v := .ref 9) (q := 54) dX8_tale_51 fX8_46 (wg_0 _) rfl rfl ?_
  refine go_aload_n (q := 55) dX8_tale_54 rfl rfl ?_
  refine go_get (v := .ref 21) (q := 58) dX8_tale_55 fX8_67 (wg_0 _) rfl rfl ?_
  refine go_iload_n (q := 59) dX8_tale_58 rfl rfl ?_
  refine go_iload_n (q := 60) dX8_tale_59 rfl rfl ?_
  obtain ⟨r1, e2, h⟩ := g_bind h
  refine go_callV0 (q := 63) (as := [.ref 21, .int x2, .int x1]) (rest := []) (st2 := []) (w2 := wW r1) dX8_tale_60 cX8_146 (t_X4_writeWordsb s x2 x1 _ e2) (wg_9 _) rfl rfl rfl (Nat.le_of_ble_eq_true rfl) (by decide) ⟨Nat.le_refl _, Nat.le_refl _⟩ rfl rfl ?_
  refine go_iinc (v := x2 + 1) (ls2 := [some (.ref 0), some (.int x1), some (.int (x2 + 1))]) (q := 66) dX8_tale_63 (by decide) rfl rfl rfl rfl ?_
  refine go_goto (tgt := 25) dX8_tale_66 (by decide) ?_
  refine go_ls (ls2 := [some (.ref 0), some (.int x1), some (.int (x2 + 1))]) ⟨rfl, rfl, rfl, trivial⟩ ?_
  exact hK25 r1 x1 (x2 + 1) h
def f_X8_tale_25 : Nat → gS → Int32 → Int32 → Option (Int32 × gS)
  | 0, _, _, _ => none
  | φ + 1, s, x1, x2 =>
    if (s.1 7) < x2 then
      some (s.1 18, s)
    else
      if x2 ≤ 1 then
        f_X8_tale_50 (f_X8_tale_25 φ) s x1 x2
      else
        (f_X7_addByteb s 32).bind fun r3 =>
        f_X8_tale_50 (f_X8_tale_25 φ) r3 x1 x2
set_option maxHeartbeats 4000000 in
set_option maxRecDepth 100000 in
theorem b_X8_tale_25 (r : Int32 × gS) : ∀ (φ : Nat) (s : gS) (x1 : Int32) (x2 : Int32) , f_X8_tale_25 φ s x1 x2 = some r → Go gTr yX8_tale cX8_tale 3 (some .int) 15 0 0 (fun r9 w9 => r9 = some (.int r.1) ∧ w9 = wW r.2) 0 0 (wW s) 25 [some (.ref 0), some (.int x1), some (.int x2)] [] := by
  intro φ
  induction φ with
  | zero =>
    intro s x1 x2 h
    exact absurd h (by intro h0; cases h0)
  | succ φ ih =>
    intro s x1 x2 h
    rw [f_X8_tale_25] at h
    refine go_iload_n (q := 26) dX8_tale_25 rfl rfl ?_
    refine go_aload_n (q := 27) dX8_tale_26 rfl rfl ?_
    refine go_get (v := .ref 2) (q := 30) dX8_tale_27 fX8_21 (wg_0 _) rfl rfl ?_
    refine go_get (v := .int (s.1 7)) (q := 33) dX8_tale_30 fX8_89 (wg_2 _) rfl rfl ?_
    refine go_icmp_gt (tgt := 69) (q := 36) dX8_tale_33 (by decide) rfl (fun c1 => ?_) (fun c1 => ?_)
    · replace h := g_pos c1 h
      refine go_aload_n (q := 70) dX8_tale_69 rfl rfl ?_
      refine go_get (v := .ref 21) (q := 73) dX8_tale_70 fX8_67 (wg_0 _) rfl rfl ?_
      refine go_get (v := .int (s.1 18)) (q := 76) dX8_tale_73 fX8_150 (wg_21 _) rfl rfl ?_
      cases h
      exact go_iret dX8_tale_76 rfl rfl (Nat.le_refl _) (Nat.le_refl _) ⟨rfl, rfl⟩
    · replace h := g_neg c1 h
      refine go_iload_n (q := 37) dX8_tale_36 rfl rfl ?_
      refine go_iconst (v := 1) (q := 38) dX8_tale_37 (by decide) rfl ?_
      refine go_icmp_le (tgt := 50) (q := 41) dX8_tale_38 (by decide) rfl (fun c2 => ?_) (fun c2 => ?_)
      · replace h := g_pos c2 h
        refine go_ls (ls2 := [some (.ref 0), some (.int x1), some (.int x2)]) ⟨rfl, rfl, rfl, trivial⟩ ?_
        exact b_X8_tale_50 (f_X8_tale_25 φ) r (fun s x1 x2 h => ih s x1 x2 h) s x1 x2 h
      · replace h := g_neg c2 h
        refine go_aload_n (q := 42) dX8_tale_41 rfl rfl ?_
        refine go_get (v := .ref 21) (q := 45) dX8_tale_42 fX8_67 (wg_0 _) rfl rfl ?_
        refine go_bipush (v := 32) (q := 47) dX8_tale_45 (by decide) rfl ?_
        obtain ⟨r3, e4, h⟩ := g_bind h
        refine go_callV0 (q := 50) (as := [.int 32]) (rest := []) (st2 := []) (w2 := wW r3) dX8_tale_47 cX8_153 (t_X7_addByteb s 32 _ e4) (wg_21 _) rfl rfl rfl (Nat.le_of_ble_eq_true rfl) (by decide) ⟨Nat.le_refl _, Nat.le_refl _⟩ rfl rfl ?_
        refine go_ls (ls2 := [some (.ref 0), some (.int x1), some (.int x2)]) ⟨rfl, rfl, rfl, trivial⟩ ?_
        exact b_X8_tale_50 (f_X8_tale_25 φ) r (fun s x1 x2 h => ih s x1 x2 h) r3 x1 x2 h
def f_X8_tale (s : gS) (x1 : Int32) : Option (Int32 × gS) :=
  (f_X4_isLevel x1).bind fun r1 =>
  if r1 = 0 then
    some ((-1 : Int32), s)
  else
    (f_X2_examine s).bind fun r4 =>
    (f_X7_clearb r4).bind fun r6 =>
    f_X8_tale_25 gφ r6 x1 1
set_option maxHeartbeats 4000000 in
set_option maxRecDepth 100000 in
theorem b_X8_tale (r : Int32 × gS) : ∀ (s : gS) (x1 : Int32) , f_X8_tale s x1 = some r → Go gTr yX8_tale cX8_tale 3 (some .int) 15 0 0 (fun r9 w9 => r9 = some (.int r.1) ∧ w9 = wW r.2) 0 0 (wW s) 0 [some (.ref 0), some (.int x1), none] [] := by
  intro s x1 h
  rw [f_X8_tale] at h
  refine go_iload_n (q := 1) dX8_tale_0 rfl rfl ?_
  obtain ⟨r1, e2, h⟩ := g_bind h
  refine go_callS0 (q := 4) (as := [.int x1]) (rest := []) (st2 := [.int r1]) (w2 := wW s) dX8_tale_1 cX8_142 (t_X4_isLevel _ x1 _ e2) rfl rfl (Nat.le_of_ble_eq_true rfl) (by decide) ⟨Nat.le_refl _, Nat.le_refl _⟩ rfl rfl ?_
  refine go_if_ne (tgt := 9) (q := 7) dX8_tale_4 (by decide) rfl (fun c3 => ?_) (fun c3 => ?_)
  · replace h := g_neg c3 h
    refine go_aload_n (q := 10) dX8_tale_9 rfl rfl ?_
    refine go_get (v := .ref 5) (q := 13) dX8_tale_10 fX8_37 (wg_0 _) rfl rfl ?_
    obtain ⟨r4, e5, h⟩ := g_bind h
    refine go_callV0 (q := 16) (as := []) (rest := []) (st2 := []) (w2 := wW r4) dX8_tale_13 cX8_130 (t_X2_examine s _ e5) (wg_5 _) rfl rfl rfl (Nat.le_of_ble_eq_true rfl) (by decide) ⟨Nat.le_refl _, Nat.le_refl _⟩ rfl rfl ?_
    refine go_aload_n (q := 17) dX8_tale_16 rfl rfl ?_
    refine go_get (v := .ref 21) (q := 20) dX8_tale_17 fX8_67 (wg_0 _) rfl rfl ?_
    obtain ⟨r6, e7, h⟩ := g_bind h
    refine go_callV0 (q := 23) (as := []) (rest := []) (st2 := []) (w2 := wW r6) dX8_tale_20 cX8_145 (t_X7_clearb r4 _ e7) (wg_21 _) rfl rfl rfl (Nat.le_of_ble_eq_true rfl) (by decide) ⟨Nat.le_refl _, Nat.le_refl _⟩ rfl rfl ?_
    refine go_iconst (v := 1) (q := 24) dX8_tale_23 (by decide) rfl ?_
    refine go_istore_n (ls2 := [some (.ref 0), some (.int x1), some (.int 1)]) (q := 25) dX8_tale_24 (by decide) rfl rfl ?_
    refine go_ls (ls2 := [some (.ref 0), some (.int x1), some (.int 1)]) ⟨rfl, rfl, rfl, trivial⟩ ?_
    exact b_X8_tale_25 r gφ r6 x1 1 h
  · replace h := g_pos c3 h
    refine go_iconst (v := (-1 : Int32)) (q := 8) dX8_tale_7 (by decide) rfl ?_
    cases h
    exact go_iret dX8_tale_8 rfl rfl (Nat.le_refl _) (Nat.le_refl _) ⟨rfl, rfl⟩
theorem t_X8_tale (s : gS) (x1 : Int32) (r : Int32 × gS) (h : f_X8_tale s x1 = some r) : Cal 15 mX8_tale [.ref 0, .int x1] (wW s) 0 0 (some (.int r.1)) (wW r.2) := Cal.of (by decide) (g_cats rfl) (Nat.le_of_ble_eq_true rfl) (b_X8_tale r s x1 h)
def f_X7_byteAtb (s : gS) (x1 : Int32) : Option Int32 :=
  if x1 < 0 then
    some (-1 : Int32)
  else
    if (s.1 18) ≤ x1 then
      some (-1 : Int32)
    else
      if 272 ≤ x1 then
        some (-1 : Int32)
      else
        if inB x1 272 = true then
          some (s.2 12 x1.toNatClampNeg)
        else none
set_option maxHeartbeats 4000000 in
set_option maxRecDepth 100000 in
theorem b_X7_byteAtb (s : gS) (r : Int32) : ∀ (x1 : Int32) , f_X7_byteAtb s x1 = some r → Go gTr yX7_byteAt cX7_byteAt 2 (some .int) 1 0 0 (fun r9 w9 => r9 = some (.int r) ∧ w9 = wW s) 0 0 (wW s) 0 [some (.ref 21), some (.int x1)] [] := by
  intro x1 h
  rw [f_X7_byteAtb] at h
  refine go_iload_n (q := 1) dX7_byteAt_0 rfl rfl ?_
  refine go_if_lt (tgt := 30) (q := 4) dX7_byteAt_1 (by decide) rfl (fun c1 => ?_) (fun c1 => ?_)
  · replace h := g_pos c1 h
    refine go_iconst (v := (-1 : Int32)) (q := 31) dX7_byteAt_30 (by decide) rfl ?_
    cases h
    exact go_iret dX7_byteAt_31 rfl rfl (Nat.le_refl _) (Nat.le_refl _) ⟨rfl, rfl⟩
  · replace h := g_neg c1 h
    refine go_iload_n (q := 5) dX7_byteAt_4 rfl rfl ?_
    refine go_aload_n (q := 6) dX7_byteAt_5 rfl rfl ?_
    refine go_get (v := .int (s.1 18)) (q := 9) dX7_byteAt_6 fX7_15 (wg_21 _) rfl rfl ?_
    refine go_icmp_ge (tgt := 30) (q := 12) dX7_byteAt_9 (by decide) rfl (fun c2 => ?_) (fun c2 => ?_)
    · replace h := g_pos c2 h
      refine go_iconst (v := (-1 : Int32)) (q := 31) dX7_byteAt_30 (by decide) rfl ?_
      cases h
      exact go_iret dX7_byteAt_31 rfl rfl (Nat.le_refl _) (Nat.le_refl _) ⟨rfl, rfl⟩
    · replace h := g_neg c2 h
      refine go_iload_n (q := 13) dX7_byteAt_12 rfl rfl ?_
      refine go_aload_n (q := 14) dX7_byteAt_13 rfl rfl ?_
      refine go_get (v := .ref 22) (q := 17) dX7_byteAt_14 fX7_11 (wg_21 _) rfl rfl ?_
      refine go_alen (v := 272) (q := 18) dX7_byteAt_17 (by decide) (wg_22 _) rfl rfl ?_
      refine go_icmp_ge (tgt := 30) (q := 21) dX7_byteAt_18 (by decide) rfl (fun c3 => ?_) (fun c3 => ?_)
      · replace h := g_pos c3 h
        refine go_iconst (v := (-1 : Int32)) (q := 31) dX7_byteAt_30 (by decide) rfl ?_
        cases h
        exact go_iret dX7_byteAt_31 rfl rfl (Nat.le_refl _) (Nat.le_refl _) ⟨rfl, rfl⟩
      · replace h := g_neg c3 h
        refine go_aload_n (q := 22) dX7_byteAt_21 rfl rfl ?_
        refine go_get (v := .ref 22) (q := 25) dX7_byteAt_22 fX7_11 (wg_21 _) rfl rfl ?_
        refine go_iload_n (q := 26) dX7_byteAt_25 rfl rfl ?_
        obtain ⟨g4, h⟩ := g_guard h
        refine go_bald (f := s.2 12) (q := 27) dX7_byteAt_26 (wg_22 _) (inB_in g4) rfl ?_
        refine go_goto (tgt := 31) dX7_byteAt_27 (by decide) ?_
        cases h
        exact go_iret dX7_byteAt_31 rfl rfl (Nat.le_refl _) (Nat.le_refl _) ⟨rfl, rfl⟩
theorem t_X7_byteAtb (s : gS) (x1 : Int32) (r : Int32) (h : f_X7_byteAtb s x1 = some r) : Cal 1 mX7_byteAt [.ref 21, .int x1] (wW s) 0 0 (some (.int r)) (wW s) := Cal.of (by decide) (g_cats rfl) (Nat.le_of_ble_eq_true rfl) (b_X7_byteAtb s r x1 h)
def f_X8_octet (s : gS) (x1 : Int32) : Option Int32 :=
  (f_X7_byteAtb s x1).bind fun r1 =>
  some r1
set_option maxHeartbeats 4000000 in
set_option maxRecDepth 100000 in
theorem b_X8_octet (s : gS) (r : Int32) : ∀ (x1 : Int32) , f_X8_octet s x1 = some r → Go gTr yX8_octet cX8_octet 2 (some .int) 2 0 0 (fun r9 w9 => r9 = some (.int r) ∧ w9 = wW s) 0 0 (wW s) 0 [some (.ref 0), some (.int x1)] [] := by
  intro x1 h
  rw [f_X8_octet] at h
  refine go_aload_n (q := 1) dX8_octet_0 rfl rfl ?_
  refine go_get (v := .ref 21) (q := 4) dX8_octet_1 fX8_67 (wg_0 _) rfl rfl ?_
  refine go_iload_n (q := 5) dX8_octet_4 rfl rfl ?_
  obtain ⟨r1, e2, h⟩ := g_bind h
  refine go_callV0 (q := 8) (as := [.int x1]) (rest := []) (st2 := [.int r1]) (w2 := wW s) dX8_octet_5 cX8_157 (t_X7_byteAtb s x1 _ e2) (wg_21 _) rfl rfl rfl (Nat.le_of_ble_eq_true rfl) (by decide) ⟨Nat.le_refl _, Nat.le_refl _⟩ rfl rfl ?_
  cases h
  exact go_iret dX8_octet_8 rfl rfl (Nat.le_refl _) (Nat.le_refl _) ⟨rfl, rfl⟩
theorem t_X8_octet (s : gS) (x1 : Int32) (r : Int32) (h : f_X8_octet s x1 = some r) : Cal 2 mX8_octet [.ref 0, .int x1] (wW s) 0 0 (some (.int r)) (wW s) := Cal.of (by decide) (g_cats rfl) (Nat.le_of_ble_eq_true rfl) (b_X8_octet s r x1 h)
def f_X7_cleara (s : gS) : Option gS :=
  some (ss s 17 0)
set_option maxHeartbeats 4000000 in
set_option maxRecDepth 100000 in
theorem b_X7_cleara (r : gS) : ∀ (s : gS) , f_X7_cleara s = some r → Go gTr yX7_clear cX7_clear 1 none 1 0 0 (fun r9 w9 => r9 = none ∧ w9 = wW r) 0 0 (wW s) 0 [some (.ref 10)] [] := by
  intro s h
  rw [f_X7_cleara] at h
  refine go_aload_n (q := 1) dX7_clear_0 rfl rfl ?_
  refine go_iconst (v := 0) (q := 2) dX7_clear_1 (by decide) rfl ?_
  refine go_put (w2 := wW (ss s 17 0)) (q := 5) dX7_clear_2 fX7_15 (wg_10 _) (Nat.le_of_ble_eq_true rfl) (fun _ => rfl) (fun _ => rfl) (wp_10_1 _ _) rfl ?_
  cases h
  exact go_ret dX7_clear_5 rfl (Nat.le_refl _) (Nat.le_refl _) ⟨rfl, rfl⟩
theorem t_X7_cleara (s : gS) (r : gS) (h : f_X7_cleara s = some r) : Cal 1 mX7_clear [.ref 10] (wW s) 0 0 none (wW r) := Cal.of (by decide) (g_cats rfl) (Nat.le_of_ble_eq_true rfl) (b_X7_cleara r s h)
def f_X7_addBytea (s : gS) (x1 : Int32) : Option gS :=
  if 272 ≤ (s.1 17) then
    some s
  else
    if inB (s.1 17) 272 = true then
      some (ss (sa s 4 ((s.1 17).toNatClampNeg) x1.toInt8.toInt32.toInt8.toInt32) 17 ((s.1 17) + 1))
    else none
set_option maxHeartbeats 4000000 in
set_option maxRecDepth 100000 in
theorem b_X7_addBytea (r : gS) : ∀ (s : gS) (x1 : Int32) , f_X7_addBytea s x1 = some r → Go gTr yX7_addByte cX7_addByte 2 none 1 0 0 (fun r9 w9 => r9 = none ∧ w9 = wW r) 0 0 (wW s) 0 [some (.ref 10), some (.int x1)] [] := by
  intro s x1 h
  rw [f_X7_addBytea] at h
  refine go_aload_n (q := 1) dX7_addByte_0 rfl rfl ?_
  refine go_get (v := .int (s.1 17)) (q := 4) dX7_addByte_1 fX7_15 (wg_10 _) rfl rfl ?_
  refine go_aload_n (q := 5) dX7_addByte_4 rfl rfl ?_
  refine go_get (v := .ref 11) (q := 8) dX7_addByte_5 fX7_11 (wg_10 _) rfl rfl ?_
  refine go_alen (v := 272) (q := 9) dX7_addByte_8 (by decide) (wg_11 _) rfl rfl ?_
  refine go_icmp_ge (tgt := 33) (q := 12) dX7_addByte_9 (by decide) rfl (fun c1 => ?_) (fun c1 => ?_)
  · replace h := g_pos c1 h
    cases h
    exact go_ret dX7_addByte_33 rfl (Nat.le_refl _) (Nat.le_refl _) ⟨rfl, rfl⟩
  · replace h := g_neg c1 h
    refine go_aload_n (q := 13) dX7_addByte_12 rfl rfl ?_
    refine go_get (v := .ref 11) (q := 16) dX7_addByte_13 fX7_11 (wg_10 _) rfl rfl ?_
    refine go_aload_n (q := 17) dX7_addByte_16 rfl rfl ?_
    refine go_get (v := .int (s.1 17)) (q := 20) dX7_addByte_17 fX7_15 (wg_10 _) rfl rfl ?_
    refine go_iload_n (q := 21) dX7_addByte_20 rfl rfl ?_
    refine go_i2b (q := 22) dX7_addByte_21 rfl ?_
    obtain ⟨g2, h⟩ := g_guard h
    refine go_bast (w2 := wW (sa s 4 ((s.1 17).toNatClampNeg) x1.toInt8.toInt32.toInt8.toInt32)) (q := 23) dX7_addByte_22 (wg_11 _) (inB_in g2) (wa_11 _ _ _) rfl ?_
    refine go_aload_n (q := 24) dX7_addByte_23 rfl rfl ?_
    refine go_dup (q := 25) dX7_addByte_24 rfl rfl ?_
    refine go_get (v := .int (s.1 17)) (q := 28) dX7_addByte_25 fX7_15 (wg_10 _) rfl rfl ?_
    refine go_iconst (v := 1) (q := 29) dX7_addByte_28 (by decide) rfl ?_
    refine go_iadd (q := 30) dX7_addByte_29 rfl ?_
    refine go_put (w2 := wW (ss (sa s 4 ((s.1 17).toNatClampNeg) x1.toInt8.toInt32.toInt8.toInt32) 17 ((s.1 17) + 1))) (q := 33) dX7_addByte_30 fX7_15 (wg_10 _) (Nat.le_of_ble_eq_true rfl) (fun _ => rfl) (fun _ => rfl) (wp_10_1 _ _) rfl ?_
    cases h
    exact go_ret dX7_addByte_33 rfl (Nat.le_refl _) (Nat.le_refl _) ⟨rfl, rfl⟩
theorem t_X7_addBytea (s : gS) (x1 : Int32) (r : gS) (h : f_X7_addBytea s x1 = some r) : Cal 1 mX7_addByte [.ref 10, .int x1] (wW s) 0 0 none (wW r) := Cal.of (by decide) (g_cats rfl) (Nat.le_of_ble_eq_true rfl) (b_X7_addBytea r s x1 h)
def f_X7_addNumbera_17 (s : gS) (x1 : Int32) : Option gS :=
  (f_X7_addBytea s (48 + (x1 - x1 / 10 * 10))).bind fun r1 =>
  some r1
set_option maxHeartbeats 4000000 in
set_option maxRecDepth 100000 in
theorem b_X7_addNumbera_17 (r : gS) : ∀ (s : gS) (x1 : Int32) , f_X7_addNumbera_17 s x1 = some r → Go gTr yX7_addNumber cX7_addNumber 2 none 2 0 0 (fun r9 w9 => r9 = none ∧ w9 = wW r) 0 0 (wW s) 17 [some (.ref 10), some (.int x1)] [] := by
  intro s x1 h
  rw [f_X7_addNumbera_17] at h
  refine go_aload_n (q := 18) dX7_addNumber_17 rfl rfl ?_
  refine go_bipush (v := 48) (q := 20) dX7_addNumber_18 (by decide) rfl ?_
  refine go_iload_n (q := 21) dX7_addNumber_20 rfl rfl ?_
  refine go_bipush (v := 10) (q := 23) dX7_addNumber_21 (by decide) rfl ?_
  refine go_irem (q := 24) dX7_addNumber_23 (by decide) rfl ?_
  refine go_iadd (q := 25) dX7_addNumber_24 rfl ?_
  obtain ⟨r1, e2, h⟩ := g_bind h
  refine go_callV0 (q := 28) (as := [.int (48 + (x1 - x1 / 10 * 10))]) (rest := []) (st2 := []) (w2 := wW r1) dX7_addNumber_25 cX7_19 (t_X7_addBytea s (48 + (x1 - x1 / 10 * 10)) _ e2) (wg_10 _) rfl rfl rfl (Nat.le_of_ble_eq_true rfl) (by decide) ⟨Nat.le_refl _, Nat.le_refl _⟩ rfl rfl ?_
  cases h
  exact go_ret dX7_addNumber_28 rfl (Nat.le_refl _) (Nat.le_refl _) ⟨rfl, rfl⟩
def f_X7_addNumbera (s : gS) (x1 : Int32) : Option gS :=
  if x1 < 10 then
    f_X7_addNumbera_17 s x1
  else
    (f_X7_addBytea s (48 + (x1 / 10))).bind fun r2 =>
    f_X7_addNumbera_17 r2 x1
set_option maxHeartbeats 4000000 in
set_option maxRecDepth 100000 in
theorem b_X7_addNumbera (r : gS) : ∀ (s : gS) (x1 : Int32) , f_X7_addNumbera s x1 = some r → Go gTr yX7_addNumber cX7_addNumber 2 none 2 0 0 (fun r9 w9 => r9 = none ∧ w9 = wW r) 0 0 (wW s) 0 [some (.ref 10), some (.int x1)] [] := by
  intro s x1 h
  rw [f_X7_addNumbera] at h
  refine go_iload_n (q := 1) dX7_addNumber_0 rfl rfl ?_
  refine go_bipush (v := 10) (q := 3) dX7_addNumber_1 (by decide) rfl ?_
  refine go_icmp_lt (tgt := 17) (q := 6) dX7_addNumber_3 (by decide) rfl (fun c1 => ?_) (fun c1 => ?_)
  · replace h := g_pos c1 h
    refine go_ls (ls2 := [some (.ref 10), some (.int x1)]) ⟨rfl, rfl, trivial⟩ ?_
    exact b_X7_addNumbera_17 r s x1 h
  · replace h := g_neg c1 h
    refine go_aload_n (q := 7) dX7_addNumber_6 rfl rfl ?_
    refine go_bipush (v := 48) (q := 9) dX7_addNumber_7 (by decide) rfl ?_
    refine go_iload_n (q := 10) dX7_addNumber_9 rfl rfl ?_
    refine go_bipush (v := 10) (q := 12) dX7_addNumber_10 (by decide) rfl ?_
    refine go_idiv (q := 13) dX7_addNumber_12 (by decide) rfl ?_
    refine go_iadd (q := 14) dX7_addNumber_13 rfl ?_
    obtain ⟨r2, e3, h⟩ := g_bind h
    refine go_callV0 (q := 17) (as := [.int (48 + (x1 / 10))]) (rest := []) (st2 := []) (w2 := wW r2) dX7_addNumber_14 cX7_19 (t_X7_addBytea s (48 + (x1 / 10)) _ e3) (wg_10 _) rfl rfl rfl (Nat.le_of_ble_eq_true rfl) (by decide) ⟨Nat.le_refl _, Nat.le_refl _⟩ rfl rfl ?_
    refine go_ls (ls2 := [some (.ref 10), some (.int x1)]) ⟨rfl, rfl, trivial⟩ ?_
    exact b_X7_addNumbera_17 r r2 x1 h
theorem t_X7_addNumbera (s : gS) (x1 : Int32) (r : gS) (h : f_X7_addNumbera s x1 = some r) : Cal 2 mX7_addNumber [.ref 10, .int x1] (wW s) 0 0 none (wW r) := Cal.of (by decide) (g_cats rfl) (Nat.le_of_ble_eq_true rfl) (b_X7_addNumbera r s x1 h)
def f_X4_writeCella (s : gS) (x2 : Int32) : Option gS :=
  (f_X0_columnOf x2).bind fun r1 =>
  (f_X7_addBytea s (97 + r1)).bind fun r3 =>
  (f_X0_rowOf x2).bind fun r5 =>
  (f_X7_addBytea r3 (49 + r5)).bind fun r7 =>
  some r7
set_option maxHeartbeats 4000000 in
set_option maxRecDepth 100000 in
theorem b_X4_writeCella (r : gS) : ∀ (s : gS) (x2 : Int32) , f_X4_writeCella s x2 = some r → Go gTr yX4_writeCell cX4_writeCell 3 none 3 0 0 (fun r9 w9 => r9 = none ∧ w9 = wW r) 0 0 (wW s) 0 [some (.ref 9), some (.ref 10), some (.int x2)] [] := by
  intro s x2 h
  rw [f_X4_writeCella] at h
  refine go_aload_n (q := 1) dX4_writeCell_0 rfl rfl ?_
  refine go_bipush (v := 97) (q := 3) dX4_writeCell_1 (by decide) rfl ?_
  refine go_aload_n (q := 4) dX4_writeCell_3 rfl rfl ?_
  refine go_get (v := .ref 1) (q := 7) dX4_writeCell_4 fX4_7 (wg_9 _) rfl rfl ?_
  refine go_iload_n (q := 8) dX4_writeCell_7 rfl rfl ?_
  obtain ⟨r1, e2, h⟩ := g_bind h
  refine go_callV0 (q := 11) (as := [.int x2]) (rest := [.int 97, .ref 10]) (st2 := [.int r1, .int 97, .ref 10]) (w2 := wW s) dX4_writeCell_8 cX4_58 (t_X0_columnOf _ x2 _ e2) (wg_1 _) rfl rfl rfl (Nat.le_of_ble_eq_true rfl) (by decide) ⟨Nat.le_refl _, Nat.le_refl _⟩ rfl rfl ?_
  refine go_iadd (q := 12) dX4_writeCell_11 rfl ?_
  obtain ⟨r3, e4, h⟩ := g_bind h
  refine go_callV0 (q := 15) (as := [.int (97 + r1)]) (rest := []) (st2 := []) (w2 := wW r3) dX4_writeCell_12 cX4_32 (t_X7_addBytea s (97 + r1) _ e4) (wg_10 _) rfl rfl rfl (Nat.le_of_ble_eq_true rfl) (by decide) ⟨Nat.le_refl _, Nat.le_refl _⟩ rfl rfl ?_
  refine go_aload_n (q := 16) dX4_writeCell_15 rfl rfl ?_
  refine go_bipush (v := 49) (q := 18) dX4_writeCell_16 (by decide) rfl ?_
  refine go_aload_n (q := 19) dX4_writeCell_18 rfl rfl ?_
  refine go_get (v := .ref 1) (q := 22) dX4_writeCell_19 fX4_7 (wg_9 _) rfl rfl ?_
  refine go_iload_n (q := 23) dX4_writeCell_22 rfl rfl ?_
  obtain ⟨r5, e6, h⟩ := g_bind h
  refine go_callV0 (q := 26) (as := [.int x2]) (rest := [.int 49, .ref 10]) (st2 := [.int r5, .int 49, .ref 10]) (w2 := wW r3) dX4_writeCell_23 cX4_63 (t_X0_rowOf _ x2 _ e6) (wg_1 _) rfl rfl rfl (Nat.le_of_ble_eq_true rfl) (by decide) ⟨Nat.le_refl _, Nat.le_refl _⟩ rfl rfl ?_
  refine go_iadd (q := 27) dX4_writeCell_26 rfl ?_
  obtain ⟨r7, e8, h⟩ := g_bind h
  refine go_callV0 (q := 30) (as := [.int (49 + r5)]) (rest := []) (st2 := []) (w2 := wW r7) dX4_writeCell_27 cX4_32 (t_X7_addBytea r3 (49 + r5) _ e8) (wg_10 _) rfl rfl rfl (Nat.le_of_ble_eq_true rfl) (by decide) ⟨Nat.le_refl _, Nat.le_refl _⟩ rfl rfl ?_
  cases h
  exact go_ret dX4_writeCell_30 rfl (Nat.le_refl _) (Nat.le_refl _) ⟨rfl, rfl⟩
theorem t_X4_writeCella (s : gS) (x2 : Int32) (r : gS) (h : f_X4_writeCella s x2 = some r) : Cal 3 mX4_writeCell [.ref 9, .ref 10, .int x2] (wW s) 0 0 none (wW r) := Cal.of (by decide) (g_cats rfl) (Nat.le_of_ble_eq_true rfl) (b_X4_writeCella r s x2 h)
def f_X4_writeSignsa_3 : Nat → gS → Int32 → Int32 → Int32 → Option gS
  | 0, _, _, _, _ => none
  | φ + 1, s, x2, x3, x4 =>
    if x3 ≤ x4 then
      some s
    else
      (f_X7_addBytea s x2).bind fun r2 =>
      f_X4_writeSignsa_3 φ r2 x2 x3 (x4 + 1)
set_option maxHeartbeats 4000000 in
set_option maxRecDepth 100000 in
theorem b_X4_writeSignsa_3 (r : gS) : ∀ (φ : Nat) (s : gS) (x2 : Int32) (x3 : Int32) (x4 : Int32) , f_X4_writeSignsa_3 φ s x2 x3 x4 = some r → Go gTr yX4_writeSigns cX4_writeSigns 5 none 2 0 0 (fun r9 w9 => r9 = none ∧ w9 = wW r) 0 0 (wW s) 3 [none, some (.ref 10), some (.int x2), some (.int x3), some (.int x4)] [] := by
  intro φ
  induction φ with
  | zero =>
    intro s x2 x3 x4 h
    exact absurd h (by intro h0; cases h0)
  | succ φ ih =>
    intro s x2 x3 x4 h
    rw [f_X4_writeSignsa_3] at h
    refine go_iload (q := 5) dX4_writeSigns_3 rfl rfl ?_
    refine go_iload_n (q := 6) dX4_writeSigns_5 rfl rfl ?_
    refine go_icmp_ge (tgt := 20) (q := 9) dX4_writeSigns_6 (by decide) rfl (fun c1 => ?_) (fun c1 => ?_)
    · replace h := g_pos c1 h
      cases h
      exact go_ret dX4_writeSigns_20 rfl (Nat.le_refl _) (Nat.le_refl _) ⟨rfl, rfl⟩
    · replace h := g_neg c1 h
      refine go_aload_n (q := 10) dX4_writeSigns_9 rfl rfl ?_
      refine go_iload_n (q := 11) dX4_writeSigns_10 rfl rfl ?_
      obtain ⟨r2, e3, h⟩ := g_bind h
      refine go_callV0 (q := 14) (as := [.int x2]) (rest := []) (st2 := []) (w2 := wW r2) dX4_writeSigns_11 cX4_32 (t_X7_addBytea s x2 _ e3) (wg_10 _) rfl rfl rfl (Nat.le_of_ble_eq_true rfl) (by decide) ⟨Nat.le_refl _, Nat.le_refl _⟩ rfl rfl ?_
      refine go_iinc (v := x4 + 1) (ls2 := [none, some (.ref 10), some (.int x2), some (.int x3), some (.int (x4 + 1))]) (q := 17) dX4_writeSigns_14 (by decide) rfl rfl rfl rfl ?_
      refine go_goto (tgt := 3) dX4_writeSigns_17 (by decide) ?_
      refine go_ls (ls2 := [none, some (.ref 10), some (.int x2), some (.int x3), some (.int (x4 + 1))]) ⟨rfl, rfl, rfl, rfl, trivial⟩ ?_
      exact ih r2 x2 x3 (x4 + 1) h
def f_X4_writeSignsa (s : gS) (x2 : Int32) (x3 : Int32) : Option gS :=
  f_X4_writeSignsa_3 gφ s x2 x3 0
set_option maxHeartbeats 4000000 in
set_option maxRecDepth 100000 in
theorem b_X4_writeSignsa (r : gS) : ∀ (s : gS) (x2 : Int32) (x3 : Int32) , f_X4_writeSignsa s x2 x3 = some r → Go gTr yX4_writeSigns cX4_writeSigns 5 none 2 0 0 (fun r9 w9 => r9 = none ∧ w9 = wW r) 0 0 (wW s) 0 [some (.ref 9), some (.ref 10), some (.int x2), some (.int x3), none] [] := by
  intro s x2 x3 h
  rw [f_X4_writeSignsa] at h
  refine go_iconst (v := 0) (q := 1) dX4_writeSigns_0 (by decide) rfl ?_
  refine go_istore (ls2 := [some (.ref 9), some (.ref 10), some (.int x2), some (.int x3), some (.int 0)]) (q := 3) dX4_writeSigns_1 (by decide) rfl rfl ?_
  refine go_ls (ls2 := [none, some (.ref 10), some (.int x2), some (.int x3), some (.int 0)]) ⟨rfl, rfl, rfl, rfl, trivial⟩ ?_
  exact b_X4_writeSignsa_3 r gφ s x2 x3 0 h
theorem t_X4_writeSignsa (s : gS) (x2 : Int32) (x3 : Int32) (r : gS) (h : f_X4_writeSignsa s x2 x3 = some r) : Cal 2 mX4_writeSigns [.ref 9, .ref 10, .int x2, .int x3] (wW s) 0 0 none (wW r) := Cal.of (by decide) (g_cats rfl) (Nat.le_of_ble_eq_true rfl) (b_X4_writeSignsa r s x2 x3 h)
def f_X4_writeWordsa_137 (s : gS) (x2 : Int32) (x3 : Int32) : Option gS :=
  if x3 = 1 then
    (f_X2_amountOf s x2 5).bind fun r2 =>
    (f_X4_writeSignsa s 61 r2).bind fun r4 =>
    some r4
  else
    some s
set_option maxHeartbeats 4000000 in
set_option maxRecDepth 100000 in
theorem b_X4_writeWordsa_137 (r : gS) : ∀ (s : gS) (x2 : Int32) (x3 : Int32) , f_X4_writeWordsa_137 s x2 x3 = some r → Go gTr yX4_writeWords cX4_writeWords 6 none 5 0 0 (fun r9 w9 => r9 = none ∧ w9 = wW r) 0 0 (wW s) 137 [some (.ref 9), some (.ref 10), some (.int x2), some (.int x3), none, none] [] := by
  intro s x2 x3 h
  rw [f_X4_writeWordsa_137] at h
  refine go_iload_n (q := 138) dX4_writeWords_137 rfl rfl ?_
  refine go_iconst (v := 1) (q := 139) dX4_writeWords_138 (by decide) rfl ?_
  refine go_icmp_ne (tgt := 158) (q := 142) dX4_writeWords_139 (by decide) rfl (fun c1 => ?_) (fun c1 => ?_)
  · replace h := g_neg c1 h
    cases h
    exact go_ret dX4_writeWords_158 rfl (Nat.le_refl _) (Nat.le_refl _) ⟨rfl, rfl⟩
  · replace h := g_pos c1 h
    refine go_aload_n (q := 143) dX4_writeWords_142 rfl rfl ?_
    refine go_aload_n (q := 144) dX4_writeWords_143 rfl rfl ?_
    refine go_bipush (v := 61) (q := 146) dX4_writeWords_144 (by decide) rfl ?_
    refine go_aload_n (q := 147) dX4_writeWords_146 rfl rfl ?_
    refine go_get (v := .ref 5) (q := 150) dX4_writeWords_147 fX4_17 (wg_9 _) rfl rfl ?_
    refine go_iload_n (q := 151) dX4_writeWords_150 rfl rfl ?_
    refine go_iconst (v := 5) (q := 152) dX4_writeWords_151 (by decide) rfl ?_
    obtain ⟨r2, e3, h⟩ := g_bind h
    refine go_callV0 (q := 155) (as := [.int x2, .int 5]) (rest := [.int 61, .ref 10, .ref 9]) (st2 := [.int r2, .int 61, .ref 10, .ref 9]) (w2 := wW s) dX4_writeWords_152 cX4_47 (t_X2_amountOf s x2 5 _ e3) (wg_5 _) rfl rfl rfl (Nat.le_of_ble_eq_true rfl) (by decide) ⟨Nat.le_refl _, Nat.le_refl _⟩ rfl rfl ?_
    obtain ⟨r4, e5, h⟩ := g_bind h
    refine go_callV0 (q := 158) (as := [.ref 10, .int 61, .int r2]) (rest := []) (st2 := []) (w2 := wW r4) dX4_writeWords_155 cX4_51 (t_X4_writeSignsa s 61 r2 _ e5) (wg_9 _) rfl rfl rfl (Nat.le_of_ble_eq_true rfl) (by decide) ⟨Nat.le_refl _, Nat.le_refl _⟩ rfl rfl ?_
    cases h
    exact go_ret dX4_writeWords_158 rfl (Nat.le_refl _) (Nat.le_refl _) ⟨rfl, rfl⟩
def f_X4_writeWordsa_105 (s : gS) (x2 : Int32) (x3 : Int32) : Option gS :=
  (f_X2_missedBy s x2).bind fun r1 =>
  if r1 = 0 then
    f_X4_writeWordsa_137 s x2 x3
  else
    (f_X7_addBytea s 42).bind fun r4 =>
    (f_X4_writeCella r4 (r1 &&& (-r1))).bind fun r6 =>
    f_X4_writeWordsa_137 r6 x2 x3
set_option maxHeartbeats 4000000 in
set_option maxRecDepth 100000 in
theorem b_X4_writeWordsa_105 (r : gS) : ∀ (s : gS) (x2 : Int32) (x3 : Int32) , f_X4_writeWordsa_105 s x2 x3 = some r → Go gTr yX4_writeWords cX4_writeWords 6 none 5 0 0 (fun r9 w9 => r9 = none ∧ w9 = wW r) 0 0 (wW s) 105 [some (.ref 9), some (.ref 10), some (.int x2), some (.int x3), none, none] [] := by
  intro s x2 x3 h
  rw [f_X4_writeWordsa_105] at h
  refine go_aload_n (q := 106) dX4_writeWords_105 rfl rfl ?_
  refine go_get (v := .ref 5) (q := 109) dX4_writeWords_106 fX4_17 (wg_9 _) rfl rfl ?_
  refine go_iload_n (q := 110) dX4_writeWords_109 rfl rfl ?_
  obtain ⟨r1, e2, h⟩ := g_bind h
  refine go_callV0 (q := 113) (as := [.int x2]) (rest := []) (st2 := [.int r1]) (w2 := wW s) dX4_writeWords_110 cX4_55 (t_X2_missedBy s x2 _ e2) (wg_5 _) rfl rfl rfl (Nat.le_of_ble_eq_true rfl) (by decide) ⟨Nat.le_refl _, Nat.le_refl _⟩ rfl rfl ?_
  refine go_istore (ls2 := [some (.ref 9), some (.ref 10), some (.int x2), some (.int x3), none, some (.int r1)]) (q := 115) dX4_writeWords_113 (by decide) rfl rfl ?_
  refine go_iload (q := 117) dX4_writeWords_115 rfl rfl ?_
  refine go_if_eq (tgt := 137) (q := 120) dX4_writeWords_117 (by decide) rfl (fun c3 => ?_) (fun c3 => ?_)
  · replace h := g_pos c3 h
    refine go_ls (ls2 := [some (.ref 9), some (.ref 10), some (.int x2), some (.int x3), none, none]) ⟨rfl, rfl, rfl, rfl, trivial⟩ ?_
    exact b_X4_writeWordsa_137 r s x2 x3 h
  · replace h := g_neg c3 h
    refine go_aload_n (q := 121) dX4_writeWords_120 rfl rfl ?_
    refine go_bipush (v := 42) (q := 123) dX4_writeWords_121 (by decide) rfl ?_
    obtain ⟨r4, e5, h⟩ := g_bind h
    refine go_callV0 (q := 126) (as := [.int 42]) (rest := []) (st2 := []) (w2 := wW r4) dX4_writeWords_123 cX4_32 (t_X7_addBytea s 42 _ e5) (wg_10 _) rfl rfl rfl (Nat.le_of_ble_eq_true rfl) (by decide) ⟨Nat.le_refl _, Nat.le_refl _⟩ rfl rfl ?_
    refine go_aload_n (q := 127) dX4_writeWords_126 rfl rfl ?_
    refine go_aload_n (q := 128) dX4_writeWords_127 rfl rfl ?_
    refine go_iload (q := 130) dX4_writeWords_128 rfl rfl ?_
    refine go_iload (q := 132) dX4_writeWords_130 rfl rfl ?_
    refine go_ineg (q := 133) dX4_writeWords_132 rfl ?_
    refine go_iand (q := 134) dX4_writeWords_133 rfl ?_
    obtain ⟨r6, e7, h⟩ := g_bind h
    refine go_callV0 (q := 137) (as := [.ref 10, .int (r1 &&& (-r1))]) (rest := []) (st2 := []) (w2 := wW r6) dX4_writeWords_134 cX4_41 (t_X4_writeCella r4 (r1 &&& (-r1)) _ e7) (wg_9 _) rfl rfl rfl (Nat.le_of_ble_eq_true rfl) (by decide) ⟨Nat.le_refl _, Nat.le_refl _⟩ rfl rfl ?_
    refine go_ls (ls2 := [some (.ref 9), some (.ref 10), some (.int x2), some (.int x3), none, none]) ⟨rfl, rfl, rfl, rfl, trivial⟩ ?_
    exact b_X4_writeWordsa_137 r r6 x2 x3 h
def f_X4_writeWordsa_68 (s : gS) (x2 : Int32) (x3 : Int32) : Option gS :=
  if x3 = 1 then
    (f_X2_amountOf s x2 2).bind fun r2 =>
    (f_X4_writeSignsa s 33 r2).bind fun r4 =>
    (f_X2_amountOf r4 x2 3).bind fun r6 =>
    (f_X4_writeSignsa r4 63 r6).bind fun r8 =>
    f_X4_writeWordsa_105 r8 x2 x3
  else
    f_X4_writeWordsa_105 s x2 x3
set_option maxHeartbeats 4000000 in
set_option maxRecDepth 100000 in
theorem b_X4_writeWordsa_68 (r : gS) : ∀ (s : gS) (x2 : Int32) (x3 : Int32) , f_X4_writeWordsa_68 s x2 x3 = some r → Go gTr yX4_writeWords cX4_writeWords 6 none 5 0 0 (fun r9 w9 => r9 = none ∧ w9 = wW r) 0 0 (wW s) 68 [some (.ref 9), some (.ref 10), some (.int x2), some (.int x3), none, none] [] := by
  intro s x2 x3 h
  rw [f_X4_writeWordsa_68] at h
  refine go_iload_n (q := 69) dX4_writeWords_68 rfl rfl ?_
  refine go_iconst (v := 1) (q := 70) dX4_writeWords_69 (by decide) rfl ?_
  refine go_icmp_ne (tgt := 105) (q := 73) dX4_writeWords_70 (by decide) rfl (fun c1 => ?_) (fun c1 => ?_)
  · replace h := g_neg c1 h
    refine go_ls (ls2 := [some (.ref 9), some (.ref 10), some (.int x2), some (.int x3), none, none]) ⟨rfl, rfl, rfl, rfl, trivial⟩ ?_
    exact b_X4_writeWordsa_105 r s x2 x3 h
  · replace h := g_pos c1 h
    refine go_aload_n (q := 74) dX4_writeWords_73 rfl rfl ?_
    refine go_aload_n (q := 75) dX4_writeWords_74 rfl rfl ?_
    refine go_bipush (v := 33) (q := 77) dX4_writeWords_75 (by decide) rfl ?_
    refine go_aload_n (q := 78) dX4_writeWords_77 rfl rfl ?_
    refine go_get (v := .ref 5) (q := 81) dX4_writeWords_78 fX4_17 (wg_9 _) rfl rfl ?_
    refine go_iload_n (q := 82) dX4_writeWords_81 rfl rfl ?_
    refine go_iconst (v := 2) (q := 83) dX4_writeWords_82 (by decide) rfl ?_
    obtain ⟨r2, e3, h⟩ := g_bind h
    refine go_callV0 (q := 86) (as := [.int x2, .int 2]) (rest := [.int 33, .ref 10, .ref 9]) (st2 := [.int r2, .int 33, .ref 10, .ref 9]) (w2 := wW s) dX4_writeWords_83 cX4_47 (t_X2_amountOf s x2 2 _ e3) (wg_5 _) rfl rfl rfl (Nat.le_of_ble_eq_true rfl) (by decide) ⟨Nat.le_refl _, Nat.le_refl _⟩ rfl rfl ?_
    obtain ⟨r4, e5, h⟩ := g_bind h
    refine go_callV0 (q := 89) (as := [.ref 10, .int 33, .int r2]) (rest := []) (st2 := []) (w2 := wW r4) dX4_writeWords_86 cX4_51 (t_X4_writeSignsa s 33 r2 _ e5) (wg_9 _) rfl rfl rfl (Nat.le_of_ble_eq_true rfl) (by decide) ⟨Nat.le_refl _, Nat.le_refl _⟩ rfl rfl ?_
    refine go_aload_n (q := 90) dX4_writeWords_89 rfl rfl ?_
    refine go_aload_n (q := 91) dX4_writeWords_90 rfl rfl ?_
    refine go_bipush (v := 63) (q := 93) dX4_writeWords_91 (by decide) rfl ?_
    refine go_aload_n (q := 94) dX4_writeWords_93 rfl rfl ?_
    refine go_get (v := .ref 5) (q := 97) dX4_writeWords_94 fX4_17 (wg_9 _) rfl rfl ?_
    refine go_iload_n (q := 98) dX4_writeWords_97 rfl rfl ?_
    refine go_iconst (v := 3) (q := 99) dX4_writeWords_98 (by decide) rfl ?_
    obtain ⟨r6, e7, h⟩ := g_bind h
    refine go_callV0 (q := 102) (as := [.int x2, .int 3]) (rest := [.int 63, .ref 10, .ref 9]) (st2 := [.int r6, .int 63, .ref 10, .ref 9]) (w2 := wW r4) dX4_writeWords_99 cX4_47 (t_X2_amountOf r4 x2 3 _ e7) (wg_5 _) rfl rfl rfl (Nat.le_of_ble_eq_true rfl) (by decide) ⟨Nat.le_refl _, Nat.le_refl _⟩ rfl rfl ?_
    obtain ⟨r8, e9, h⟩ := g_bind h
    refine go_callV0 (q := 105) (as := [.ref 10, .int 63, .int r6]) (rest := []) (st2 := []) (w2 := wW r8) dX4_writeWords_102 cX4_51 (t_X4_writeSignsa r4 63 r6 _ e9) (wg_9 _) rfl rfl rfl (Nat.le_of_ble_eq_true rfl) (by decide) ⟨Nat.le_refl _, Nat.le_refl _⟩ rfl rfl ?_
    refine go_ls (ls2 := [some (.ref 9), some (.ref 10), some (.int x2), some (.int x3), none, none]) ⟨rfl, rfl, rfl, rfl, trivial⟩ ?_
    exact b_X4_writeWordsa_105 r r8 x2 x3 h
def f_X4_writeWordsa (s : gS) (x2 : Int32) (x3 : Int32) : Option gS :=
  (f_X7_addNumbera s x2).bind fun r1 =>
  (f_X7_addBytea r1 46).bind fun r3 =>
  (f_X3_bitOfMove r3 x2).bind fun r5 =>
  (f_X4_writeCella r3 r5).bind fun r7 =>
  (f_X2_amountOf r7 x2 0).bind fun r9 =>
  (f_X4_writeSignsa r7 35 r9).bind fun r11 =>
  (f_X2_amountOf r11 x2 1).bind fun r13 =>
  if r13 ≤ 0 then
    f_X4_writeWordsa_68 r11 x2 x3
  else
    (f_X7_addBytea r11 43).bind fun r16 =>
    (f_X7_addNumbera r16 r13).bind fun r18 =>
    f_X4_writeWordsa_68 r18 x2 x3
set_option maxHeartbeats 4000000 in
set_option maxRecDepth 100000 in
theorem b_X4_writeWordsa (r : gS) : ∀ (s : gS) (x2 : Int32) (x3 : Int32) , f_X4_writeWordsa s x2 x3 = some r → Go gTr yX4_writeWords cX4_writeWords 6 none 5 0 0 (fun r9 w9 => r9 = none ∧ w9 = wW r) 0 0 (wW s) 0 [some (.ref 9), some (.ref 10), some (.int x2), some (.int x3), none, none] [] := by
  intro s x2 x3 h
  rw [f_X4_writeWordsa] at h
  refine go_aload_n (q := 1) dX4_writeWords_0 rfl rfl ?_
  refine go_iload_n (q := 2) dX4_writeWords_1 rfl rfl ?_
  obtain ⟨r1, e2, h⟩ := g_bind h
  refine go_callV0 (q := 5) (as := [.int x2]) (rest := []) (st2 := []) (w2 := wW r1) dX4_writeWords_2 cX4_28 (t_X7_addNumbera s x2 _ e2) (wg_10 _) rfl rfl rfl (Nat.le_of_ble_eq_true rfl) (by decide) ⟨Nat.le_refl _, Nat.le_refl _⟩ rfl rfl ?_
  refine go_aload_n (q := 6) dX4_writeWords_5 rfl rfl ?_
  refine go_bipush (v := 46) (q := 8) dX4_writeWords_6 (by decide) rfl ?_
  obtain ⟨r3, e4, h⟩ := g_bind h
  refine go_callV0 (q := 11) (as := [.int 46]) (rest := []) (st2 := []) (w2 := wW r3) dX4_writeWords_8 cX4_32 (t_X7_addBytea r1 46 _ e4) (wg_10 _) rfl rfl rfl (Nat.le_of_ble_eq_true rfl) (by decide) ⟨Nat.le_refl _, Nat.le_refl _⟩ rfl rfl ?_
  refine go_aload_n (q := 12) dX4_writeWords_11 rfl rfl ?_
  refine go_aload_n (q := 13) dX4_writeWords_12 rfl rfl ?_
  refine go_aload_n (q := 14) dX4_writeWords_13 rfl rfl ?_
  refine go_get (v := .ref 2) (q := 17) dX4_writeWords_14 fX4_13 (wg_9 _) rfl rfl ?_
  refine go_iload_n (q := 18) dX4_writeWords_17 rfl rfl ?_
  obtain ⟨r5, e6, h⟩ := g_bind h
  refine go_callV0 (q := 21) (as := [.int x2]) (rest := [.ref 10, .ref 9]) (st2 := [.int r5, .ref 10, .ref 9]) (w2 := wW r3) dX4_writeWords_18 cX4_35 (t_X3_bitOfMove r3 x2 _ e6) (wg_2 _) rfl rfl rfl (Nat.le_of_ble_eq_true rfl) (by decide) ⟨Nat.le_refl _, Nat.le_refl _⟩ rfl rfl ?_
  obtain ⟨r7, e8, h⟩ := g_bind h
  refine go_callV0 (q := 24) (as := [.ref 10, .int r5]) (rest := []) (st2 := []) (w2 := wW r7) dX4_writeWords_21 cX4_41 (t_X4_writeCella r3 r5 _ e8) (wg_9 _) rfl rfl rfl (Nat.le_of_ble_eq_true rfl) (by decide) ⟨Nat.le_refl _, Nat.le_refl _⟩ rfl rfl ?_
  refine go_aload_n (q := 25) dX4_writeWords_24 rfl rfl ?_
  refine go_aload_n (q := 26) dX4_writeWords_25 rfl rfl ?_
  refine go_bipush (v := 35) (q := 28) dX4_writeWords_26 (by decide) rfl ?_
  refine go_aload_n (q := 29) dX4_writeWords_28 rfl rfl ?_
  refine go_get (v := .ref 5) (q := 32) dX4_writeWords_29 fX4_17 (wg_9 _) rfl rfl ?_
  refine go_iload_n (q := 33) dX4_writeWords_32 rfl rfl ?_
  refine go_iconst (v := 0) (q := 34) dX4_writeWords_33 (by decide) rfl ?_
  obtain ⟨r9, e10, h⟩ := g_bind h
  refine go_callV0 (q := 37) (as := [.int x2, .int 0]) (rest := [.int 35, .ref 10, .ref 9]) (st2 := [.int r9, .int 35, .ref 10, .ref 9]) (w2 := wW r7) dX4_writeWords_34 cX4_47 (t_X2_amountOf r7 x2 0 _ e10) (wg_5 _) rfl rfl rfl (Nat.le_of_ble_eq_true rfl) (by decide) ⟨Nat.le_refl _, Nat.le_refl _⟩ rfl rfl ?_
  obtain ⟨r11, e12, h⟩ := g_bind h
  refine go_callV0 (q := 40) (as := [.ref 10, .int 35, .int r9]) (rest := []) (st2 := []) (w2 := wW r11) dX4_writeWords_37 cX4_51 (t_X4_writeSignsa r7 35 r9 _ e12) (wg_9 _) rfl rfl rfl (Nat.le_of_ble_eq_true rfl) (by decide) ⟨Nat.le_refl _, Nat.le_refl _⟩ rfl rfl ?_
  refine go_aload_n (q := 41) dX4_writeWords_40 rfl rfl ?_
  refine go_get (v := .ref 5) (q := 44) dX4_writeWords_41 fX4_17 (wg_9 _) rfl rfl ?_
  refine go_iload_n (q := 45) dX4_writeWords_44 rfl rfl ?_
  refine go_iconst (v := 1) (q := 46) dX4_writeWords_45 (by decide) rfl ?_
  obtain ⟨r13, e14, h⟩ := g_bind h
  refine go_callV0 (q := 49) (as := [.int x2, .int 1]) (rest := []) (st2 := [.int r13]) (w2 := wW r11) dX4_writeWords_46 cX4_47 (t_X2_amountOf r11 x2 1 _ e14) (wg_5 _) rfl rfl rfl (Nat.le_of_ble_eq_true rfl) (by decide) ⟨Nat.le_refl _, Nat.le_refl _⟩ rfl rfl ?_
  refine go_istore (ls2 := [some (.ref 9), some (.ref 10), some (.int x2), some (.int x3), some (.int r13), none]) (q := 51) dX4_writeWords_49 (by decide) rfl rfl ?_
  refine go_iload (q := 53) dX4_writeWords_51 rfl rfl ?_
  refine go_if_le (tgt := 68) (q := 56) dX4_writeWords_53 (by decide) rfl (fun c15 => ?_) (fun c15 => ?_)
  · replace h := g_pos c15 h
    refine go_ls (ls2 := [some (.ref 9), some (.ref 10), some (.int x2), some (.int x3), none, none]) ⟨rfl, rfl, rfl, rfl, trivial⟩ ?_
    exact b_X4_writeWordsa_68 r r11 x2 x3 h
  · replace h := g_neg c15 h
    refine go_aload_n (q := 57) dX4_writeWords_56 rfl rfl ?_
    refine go_bipush (v := 43) (q := 59) dX4_writeWords_57 (by decide) rfl ?_
    obtain ⟨r16, e17, h⟩ := g_bind h
    refine go_callV0 (q := 62) (as := [.int 43]) (rest := []) (st2 := []) (w2 := wW r16) dX4_writeWords_59 cX4_32 (t_X7_addBytea r11 43 _ e17) (wg_10 _) rfl rfl rfl (Nat.le_of_ble_eq_true rfl) (by decide) ⟨Nat.le_refl _, Nat.le_refl _⟩ rfl rfl ?_
    refine go_aload_n (q := 63) dX4_writeWords_62 rfl rfl ?_
    refine go_iload (q := 65) dX4_writeWords_63 rfl rfl ?_
    obtain ⟨r18, e19, h⟩ := g_bind h
    refine go_callV0 (q := 68) (as := [.int r13]) (rest := []) (st2 := []) (w2 := wW r18) dX4_writeWords_65 cX4_28 (t_X7_addNumbera r16 r13 _ e19) (wg_10 _) rfl rfl rfl (Nat.le_of_ble_eq_true rfl) (by decide) ⟨Nat.le_refl _, Nat.le_refl _⟩ rfl rfl ?_
    refine go_ls (ls2 := [some (.ref 9), some (.ref 10), some (.int x2), some (.int x3), none, none]) ⟨rfl, rfl, rfl, rfl, trivial⟩ ?_
    exact b_X4_writeWordsa_68 r r18 x2 x3 h
theorem t_X4_writeWordsa (s : gS) (x2 : Int32) (x3 : Int32) (r : gS) (h : f_X4_writeWordsa s x2 x3 = some r) : Cal 5 mX4_writeWords [.ref 9, .ref 10, .int x2, .int x3] (wW s) 0 0 none (wW r) := Cal.of (by decide) (g_cats rfl) (Nat.le_of_ble_eq_true rfl) (b_X4_writeWordsa r s x2 x3 h)
def f_X4_lengthOfAllWords (s : gS) (x1 : Int32) : Option (Int32 × gS) :=
  (f_X7_cleara s).bind fun r1 =>
  (f_X4_writeWordsa r1 x1 1).bind fun r3 =>
  some (r3.1 17, r3)
set_option maxHeartbeats 4000000 in
set_option maxRecDepth 100000 in
theorem b_X4_lengthOfAllWords (r : Int32 × gS) : ∀ (s : gS) (x1 : Int32) , f_X4_lengthOfAllWords s x1 = some r → Go gTr yX4_lengthOfAllWords cX4_lengthOfAllWords 2 (some .int) 6 0 0 (fun r9 w9 => r9 = some (.int r.1) ∧ w9 = wW r.2) 0 0 (wW s) 0 [some (.ref 9), some (.int x1)] [] := by
  intro s x1 h
  rw [f_X4_lengthOfAllWords] at h
  refine go_aload_n (q := 1) dX4_lengthOfAllWords_0 rfl rfl ?_
  refine go_get (v := .ref 10) (q := 4) dX4_lengthOfAllWords_1 fX4_24 (wg_9 _) rfl rfl ?_
  obtain ⟨r1, e2, h⟩ := g_bind h
  refine go_callV0 (q := 7) (as := []) (rest := []) (st2 := []) (w2 := wW r1) dX4_lengthOfAllWords_4 cX4_66 (t_X7_cleara s _ e2) (wg_10 _) rfl rfl rfl (Nat.le_of_ble_eq_true rfl) (by decide) ⟨Nat.le_refl _, Nat.le_refl _⟩ rfl rfl ?_
  refine go_aload_n (q := 8) dX4_lengthOfAllWords_7 rfl rfl ?_
  refine go_aload_n (q := 9) dX4_lengthOfAllWords_8 rfl rfl ?_
  refine go_get (v := .ref 10) (q := 12) dX4_lengthOfAllWords_9 fX4_24 (wg_9 _) rfl rfl ?_
  refine go_iload_n (q := 13) dX4_lengthOfAllWords_12 rfl rfl ?_
  refine go_iconst (v := 1) (q := 14) dX4_lengthOfAllWords_13 (by decide) rfl ?_
  obtain ⟨r3, e4, h⟩ := g_bind h
  refine go_callV0 (q := 17) (as := [.ref 10, .int x1, .int 1]) (rest := []) (st2 := []) (w2 := wW r3) dX4_lengthOfAllWords_14 cX4_69 (t_X4_writeWordsa r1 x1 1 _ e4) (wg_9 _) rfl rfl rfl (Nat.le_of_ble_eq_true rfl) (by decide) ⟨Nat.le_refl _, Nat.le_refl _⟩ rfl rfl ?_
  refine go_aload_n (q := 18) dX4_lengthOfAllWords_17 rfl rfl ?_
  refine go_get (v := .ref 10) (q := 21) dX4_lengthOfAllWords_18 fX4_24 (wg_9 _) rfl rfl ?_
  refine go_get (v := .int (r3.1 17)) (q := 24) dX4_lengthOfAllWords_21 fX4_73 (wg_10 _) rfl rfl ?_
  cases h
  exact go_iret dX4_lengthOfAllWords_24 rfl rfl (Nat.le_refl _) (Nat.le_refl _) ⟨rfl, rfl⟩
theorem t_X4_lengthOfAllWords (s : gS) (x1 : Int32) (r : Int32 × gS) (h : f_X4_lengthOfAllWords s x1 = some r) : Cal 6 mX4_lengthOfAllWords [.ref 9, .int x1] (wW s) 0 0 (some (.int r.1)) (wW r.2) := Cal.of (by decide) (g_cats rfl) (Nat.le_of_ble_eq_true rfl) (b_X4_lengthOfAllWords r s x1 h)
def f_X8_chosen_70 (K29 : gS → Int32 → Int32 → Option (Int32 × gS)) (s : gS) (x1 : Int32) (x2 : Int32) : Option (Int32 × gS) :=
  K29 s x1 (x2 + 1)
set_option maxHeartbeats 4000000 in
set_option maxRecDepth 100000 in
theorem b_X8_chosen_70 (K29 : gS → Int32 → Int32 → Option (Int32 × gS)) (r : Int32 × gS) (hK29 : ∀ (s : gS) (x1 : Int32) (x2 : Int32) , K29 s x1 x2 = some r → Go gTr yX8_chosen cX8_chosen 4 (some .int) 15 0 0 (fun r9 w9 => r9 = some (.int r.1) ∧ w9 = wW r.2) 0 0 (wW s) 29 [some (.ref 0), some (.int x1), some (.int x2), none] []) : ∀ (s : gS) (x1 : Int32) (x2 : Int32) , f_X8_chosen_70 K29 s x1 x2 = some r → Go gTr yX8_chosen cX8_chosen 4 (some .int) 15 0 0 (fun r9 w9 => r9 = some (.int r.1) ∧ w9 = wW r.2) 0 0 (wW s) 70 [some (.ref 0), some (.int x1), some (.int x2), none] [] := by
  intro s x1 x2 h
  rw [f_X8_chosen_70] at h
  refine go_iinc (v := x2 + 1) (ls2 := [some (.ref 0), some (.int x1), some (.int (x2 + 1)), none]) (q := 73) dX8_chosen_70 (by decide) rfl rfl rfl rfl ?_
  refine go_goto (tgt := 29) dX8_chosen_73 (by decide) ?_
  refine go_ls (ls2 := [some (.ref 0), some (.int x1), some (.int (x2 + 1)), none]) ⟨rfl, rfl, rfl, trivial⟩ ?_
  exact hK29 s x1 (x2 + 1) h
def f_X8_chosen_29 : Nat → gS → Int32 → Int32 → Option (Int32 × gS)
  | 0, _, _, _ => none
  | φ + 1, s, x1, x2 =>
    if (s.1 7) < x2 then
      (f_X1_choose s x1).bind fun r2 =>
      some (r2.1, r2.2)
    else
      (f_X2_worthOf s x2).bind fun r4 =>
      if r4 ≤ 0 then
        f_X8_chosen_70 (f_X8_chosen_29 φ) s x1 x2
      else
        (f_X4_lengthOfAllWords s x2).bind fun r7 =>
        (f_X1_offer r7.2 x2 r4 r7.1).bind fun r9 =>
        f_X8_chosen_70 (f_X8_chosen_29 φ) r9 x1 x2
set_option maxHeartbeats 4000000 in
set_option maxRecDepth 100000 in
theorem b_X8_chosen_29 (r : Int32 × gS) : ∀ (φ : Nat) (s : gS) (x1 : Int32) (x2 : Int32) , f_X8_chosen_29 φ s x1 x2 = some r → Go gTr yX8_chosen cX8_chosen 4 (some .int) 15 0 0 (fun r9 w9 => r9 = some (.int r.1) ∧ w9 = wW r.2) 0 0 (wW s) 29 [some (.ref 0), some (.int x1), some (.int x2), none] [] := by
  intro φ
  induction φ with
  | zero =>
    intro s x1 x2 h
    exact absurd h (by intro h0; cases h0)
  | succ φ ih =>
    intro s x1 x2 h
    rw [f_X8_chosen_29] at h
    refine go_iload_n (q := 30) dX8_chosen_29 rfl rfl ?_
    refine go_aload_n (q := 31) dX8_chosen_30 rfl rfl ?_
    refine go_get (v := .ref 2) (q := 34) dX8_chosen_31 fX8_21 (wg_0 _) rfl rfl ?_
    refine go_get (v := .int (s.1 7)) (q := 37) dX8_chosen_34 fX8_89 (wg_2 _) rfl rfl ?_
    refine go_icmp_gt (tgt := 76) (q := 40) dX8_chosen_37 (by decide) rfl (fun c1 => ?_) (fun c1 => ?_)
    · replace h := g_pos c1 h
      refine go_aload_n (q := 77) dX8_chosen_76 rfl rfl ?_
      refine go_get (v := .ref 12) (q := 80) dX8_chosen_77 fX8_53 (wg_0 _) rfl rfl ?_
      refine go_iload_n (q := 81) dX8_chosen_80 rfl rfl ?_
      obtain ⟨r2, e3, h⟩ := g_bind h
      refine go_callV0 (q := 84) (as := [.int x1]) (rest := []) (st2 := [.int r2.1]) (w2 := wW r2.2) dX8_chosen_81 cX8_171 (t_X1_choose s x1 _ e3) (wg_12 _) rfl rfl rfl (Nat.le_of_ble_eq_true rfl) (by decide) ⟨Nat.le_refl _, Nat.le_refl _⟩ rfl rfl ?_
      cases h
      exact go_iret dX8_chosen_84 rfl rfl (Nat.le_refl _) (Nat.le_refl _) ⟨rfl, rfl⟩
    · replace h := g_neg c1 h
      refine go_aload_n (q := 41) dX8_chosen_40 rfl rfl ?_
      refine go_get (v := .ref 5) (q := 44) dX8_chosen_41 fX8_37 (wg_0 _) rfl rfl ?_
      refine go_iload_n (q := 45) dX8_chosen_44 rfl rfl ?_
      obtain ⟨r4, e5, h⟩ := g_bind h
      refine go_callV0 (q := 48) (as := [.int x2]) (rest := []) (st2 := [.int r4]) (w2 := wW s) dX8_chosen_45 cX8_161 (t_X2_worthOf s x2 _ e5) (wg_5 _) rfl rfl rfl (Nat.le_of_ble_eq_true rfl) (by decide) ⟨Nat.le_refl _, Nat.le_refl _⟩ rfl rfl ?_
      refine go_istore_n (ls2 := [some (.ref 0), some (.int x1), some (.int x2), some (.int r4)]) (q := 49) dX8_chosen_48 (by decide) rfl rfl ?_
      refine go_iload_n (q := 50) dX8_chosen_49 rfl rfl ?_
      refine go_if_le (tgt := 70) (q := 53) dX8_chosen_50 (by decide) rfl (fun c6 => ?_) (fun c6 => ?_)
      · replace h := g_pos c6 h
        refine go_ls (ls2 := [some (.ref 0), some (.int x1), some (.int x2), none]) ⟨rfl, rfl, rfl, trivial⟩ ?_
        exact b_X8_chosen_70 (f_X8_chosen_29 φ) r (fun s x1 x2 h => ih s x1 x2 h) s x1 x2 h
      · replace h := g_neg c6 h
        refine go_aload_n (q := 54) dX8_chosen_53 rfl rfl ?_
        refine go_get (v := .ref 12) (q := 57) dX8_chosen_54 fX8_53 (wg_0 _) rfl rfl ?_
        refine go_iload_n (q := 58) dX8_chosen_57 rfl rfl ?_
        refine go_iload_n (q := 59) dX8_chosen_58 rfl rfl ?_
        refine go_aload_n (q := 60) dX8_chosen_59 rfl rfl ?_
        refine go_get (v := .ref 9) (q := 63) dX8_chosen_60 fX8_46 (wg_0 _) rfl rfl ?_
        refine go_iload_n (q := 64) dX8_chosen_63 rfl rfl ?_
        obtain ⟨r7, e8, h⟩ := g_bind h
        refine go_callV0 (q := 67) (as := [.int x2]) (rest := [.int r4, .int x2, .ref 12]) (st2 := [.int r7.1, .int r4, .int x2, .ref 12]) (w2 := wW r7.2) dX8_chosen_64 cX8_164 (t_X4_lengthOfAllWords s x2 _ e8) (wg_9 _) rfl rfl rfl (Nat.le_of_ble_eq_true rfl) (by decide) ⟨Nat.le_refl _, Nat.le_refl _⟩ rfl rfl ?_
        obtain ⟨r9, e10, h⟩ := g_bind h
        refine go_callV0 (q := 70) (as := [.int x2, .int r4, .int r7.1]) (rest := []) (st2 := []) (w2 := wW r9) dX8_chosen_67 cX8_167 (t_X1_offer r7.2 x2 r4 r7.1 _ e10) (wg_12 _) rfl rfl rfl (Nat.le_of_ble_eq_true rfl) (by decide) ⟨Nat.le_refl _, Nat.le_refl _⟩ rfl rfl ?_
        refine go_ls (ls2 := [some (.ref 0), some (.int x1), some (.int x2), none]) ⟨rfl, rfl, rfl, trivial⟩ ?_
        exact b_X8_chosen_70 (f_X8_chosen_29 φ) r (fun s x1 x2 h => ih s x1 x2 h) r9 x1 x2 h
def f_X8_chosen (s : gS) (x1 : Int32) : Option (Int32 × gS) :=
  if x1 < 0 then
    some ((-1 : Int32), s)
  else
    if x1 ≤ 200 then
      (f_X2_examine s).bind fun r3 =>
      (f_X1_clear r3).bind fun r5 =>
      f_X8_chosen_29 gφ r5 x1 1
    else
      some ((-1 : Int32), s)
set_option maxHeartbeats 4000000 in
set_option maxRecDepth 100000 in
theorem b_X8_chosen (r : Int32 × gS) : ∀ (s : gS) (x1 : Int32) , f_X8_chosen s x1 = some r → Go gTr yX8_chosen cX8_chosen 4 (some .int) 15 0 0 (fun r9 w9 => r9 = some (.int r.1) ∧ w9 = wW r.2) 0 0 (wW s) 0 [some (.ref 0), some (.int x1), none, none] [] := by
  intro s x1 h
  rw [f_X8_chosen] at h
  refine go_iload_n (q := 1) dX8_chosen_0 rfl rfl ?_
  refine go_if_lt (tgt := 11) (q := 4) dX8_chosen_1 (by decide) rfl (fun c1 => ?_) (fun c1 => ?_)
  · replace h := g_pos c1 h
    refine go_iconst (v := (-1 : Int32)) (q := 12) dX8_chosen_11 (by decide) rfl ?_
    cases h
    exact go_iret dX8_chosen_12 rfl rfl (Nat.le_refl _) (Nat.le_refl _) ⟨rfl, rfl⟩
  · replace h := g_neg c1 h
    refine go_iload_n (q := 5) dX8_chosen_4 rfl rfl ?_
    refine go_sipush (v := 200) (q := 8) dX8_chosen_5 (by decide) rfl ?_
    refine go_icmp_le (tgt := 13) (q := 11) dX8_chosen_8 (by decide) rfl (fun c2 => ?_) (fun c2 => ?_)
    · replace h := g_pos c2 h
      refine go_aload_n (q := 14) dX8_chosen_13 rfl rfl ?_
      refine go_get (v := .ref 5) (q := 17) dX8_chosen_14 fX8_37 (wg_0 _) rfl rfl ?_
      obtain ⟨r3, e4, h⟩ := g_bind h
      refine go_callV0 (q := 20) (as := []) (rest := []) (st2 := []) (w2 := wW r3) dX8_chosen_17 cX8_130 (t_X2_examine s _ e4) (wg_5 _) rfl rfl rfl (Nat.le_of_ble_eq_true rfl) (by decide) ⟨Nat.le_refl _, Nat.le_refl _⟩ rfl rfl ?_
      refine go_aload_n (q := 21) dX8_chosen_20 rfl rfl ?_
      refine go_get (v := .ref 12) (q := 24) dX8_chosen_21 fX8_53 (wg_0 _) rfl rfl ?_
      obtain ⟨r5, e6, h⟩ := g_bind h
      refine go_callV0 (q := 27) (as := []) (rest := []) (st2 := []) (w2 := wW r5) dX8_chosen_24 cX8_160 (t_X1_clear r3 _ e6) (wg_12 _) rfl rfl rfl (Nat.le_of_ble_eq_true rfl) (by decide) ⟨Nat.le_refl _, Nat.le_refl _⟩ rfl rfl ?_
      refine go_iconst (v := 1) (q := 28) dX8_chosen_27 (by decide) rfl ?_
      refine go_istore_n (ls2 := [some (.ref 0), some (.int x1), some (.int 1), none]) (q := 29) dX8_chosen_28 (by decide) rfl rfl ?_
      refine go_ls (ls2 := [some (.ref 0), some (.int x1), some (.int 1), none]) ⟨rfl, rfl, rfl, trivial⟩ ?_
      exact b_X8_chosen_29 r gφ r5 x1 1 h
    · replace h := g_neg c2 h
      refine go_iconst (v := (-1 : Int32)) (q := 12) dX8_chosen_11 (by decide) rfl ?_
      cases h
      exact go_iret dX8_chosen_12 rfl rfl (Nat.le_refl _) (Nat.le_refl _) ⟨rfl, rfl⟩
theorem t_X8_chosen (s : gS) (x1 : Int32) (r : Int32 × gS) (h : f_X8_chosen s x1 = some r) : Cal 15 mX8_chosen [.ref 0, .int x1] (wW s) 0 0 (some (.int r.1)) (wW r.2) := Cal.of (by decide) (g_cats rfl) (Nat.le_of_ble_eq_true rfl) (b_X8_chosen r s x1 h)
def f_X8_worth (s : gS) (x1 : Int32) : Option (Int32 × gS) :=
  (f_X8_isMove s x1).bind fun r1 =>
  if r1 = 0 then
    some ((-1 : Int32), s)
  else
    (f_X2_examine s).bind fun r4 =>
    (f_X2_worthOf r4 x1).bind fun r6 =>
    some (r6, r4)
set_option maxHeartbeats 4000000 in
set_option maxRecDepth 100000 in
theorem b_X8_worth (r : Int32 × gS) : ∀ (s : gS) (x1 : Int32) , f_X8_worth s x1 = some r → Go gTr yX8_worth cX8_worth 2 (some .int) 15 0 0 (fun r9 w9 => r9 = some (.int r.1) ∧ w9 = wW r.2) 0 0 (wW s) 0 [some (.ref 0), some (.int x1)] [] := by
  intro s x1 h
  rw [f_X8_worth] at h
  refine go_aload_n (q := 1) dX8_worth_0 rfl rfl ?_
  refine go_iload_n (q := 2) dX8_worth_1 rfl rfl ?_
  obtain ⟨r1, e2, h⟩ := g_bind h
  refine go_callV0 (q := 5) (as := [.int x1]) (rest := []) (st2 := [.int r1]) (w2 := wW s) dX8_worth_2 cX8_127 (t_X8_isMove s x1 _ e2) (wg_0 _) rfl rfl rfl (Nat.le_of_ble_eq_true rfl) (by decide) ⟨Nat.le_refl _, Nat.le_refl _⟩ rfl rfl ?_
  refine go_if_ne (tgt := 10) (q := 8) dX8_worth_5 (by decide) rfl (fun c3 => ?_) (fun c3 => ?_)
  · replace h := g_neg c3 h
    refine go_aload_n (q := 11) dX8_worth_10 rfl rfl ?_
    refine go_get (v := .ref 5) (q := 14) dX8_worth_11 fX8_37 (wg_0 _) rfl rfl ?_
    obtain ⟨r4, e5, h⟩ := g_bind h
    refine go_callV0 (q := 17) (as := []) (rest := []) (st2 := []) (w2 := wW r4) dX8_worth_14 cX8_130 (t_X2_examine s _ e5) (wg_5 _) rfl rfl rfl (Nat.le_of_ble_eq_true rfl) (by decide) ⟨Nat.le_refl _, Nat.le_refl _⟩ rfl rfl ?_
    refine go_aload_n (q := 18) dX8_worth_17 rfl rfl ?_
    refine go_get (v := .ref 5) (q := 21) dX8_worth_18 fX8_37 (wg_0 _) rfl rfl ?_
    refine go_iload_n (q := 22) dX8_worth_21 rfl rfl ?_
    obtain ⟨r6, e7, h⟩ := g_bind h
    refine go_callV0 (q := 25) (as := [.int x1]) (rest := []) (st2 := [.int r6]) (w2 := wW r4) dX8_worth_22 cX8_161 (t_X2_worthOf r4 x1 _ e7) (wg_5 _) rfl rfl rfl (Nat.le_of_ble_eq_true rfl) (by decide) ⟨Nat.le_refl _, Nat.le_refl _⟩ rfl rfl ?_
    cases h
    exact go_iret dX8_worth_25 rfl rfl (Nat.le_refl _) (Nat.le_refl _) ⟨rfl, rfl⟩
  · replace h := g_pos c3 h
    refine go_iconst (v := (-1 : Int32)) (q := 9) dX8_worth_8 (by decide) rfl ?_
    cases h
    exact go_iret dX8_worth_9 rfl rfl (Nat.le_refl _) (Nat.le_refl _) ⟨rfl, rfl⟩
theorem t_X8_worth (s : gS) (x1 : Int32) (r : Int32 × gS) (h : f_X8_worth s x1 = some r) : Cal 15 mX8_worth [.ref 0, .int x1] (wW s) 0 0 (some (.int r.1)) (wW r.2) := Cal.of (by decide) (g_cats rfl) (Nat.le_of_ble_eq_true rfl) (b_X8_worth r s x1 h)
def f_X8_feed (s : gS) (x1 : Int32) (x2 : Int32) (x3 : Int32) (x4 : Int32) (x5 : Int32) : Option (Int32 × gS) :=
  (f_X6_hasRoomForTwenty s).bind fun r1 =>
  if r1 = 0 then
    some ((-1 : Int32), s)
  else
    (f_X6_addFour s x1).bind fun r4 =>
    (f_X6_addFour r4 x2).bind fun r6 =>
    (f_X6_addFour r6 x3).bind fun r8 =>
    (f_X6_addFour r8 x4).bind fun r10 =>
    (f_X6_addFour r10 x5).bind fun r12 =>
    some (r12.1 12, r12)
set_option maxHeartbeats 4000000 in
set_option maxRecDepth 100000 in
theorem b_X8_feed (r : Int32 × gS) : ∀ (s : gS) (x1 : Int32) (x2 : Int32) (x3 : Int32) (x4 : Int32) (x5 : Int32) , f_X8_feed s x1 x2 x3 x4 x5 = some r → Go gTr yX8_feed cX8_feed 6 (some .int) 2 0 0 (fun r9 w9 => r9 = some (.int r.1) ∧ w9 = wW r.2) 0 0 (wW s) 0 [some (.ref 0), some (.int x1), some (.int x2), some (.int x3), some (.int x4), some (.int x5)] [] := by
  intro s x1 x2 x3 x4 x5 h
  rw [f_X8_feed] at h
  refine go_aload_n (q := 1) dX8_feed_0 rfl rfl ?_
  refine go_get (v := .ref 19) (q := 4) dX8_feed_1 fX8_60 (wg_0 _) rfl rfl ?_
  obtain ⟨r1, e2, h⟩ := g_bind h
  refine go_callV0 (q := 7) (as := []) (rest := []) (st2 := [.int r1]) (w2 := wW s) dX8_feed_4 cX8_174 (t_X6_hasRoomForTwenty s _ e2) (wg_19 _) rfl rfl rfl (Nat.le_of_ble_eq_true rfl) (by decide) ⟨Nat.le_refl _, Nat.le_refl _⟩ rfl rfl ?_
  refine go_if_ne (tgt := 12) (q := 10) dX8_feed_7 (by decide) rfl (fun c3 => ?_) (fun c3 => ?_)
  · replace h := g_neg c3 h
    refine go_aload_n (q := 13) dX8_feed_12 rfl rfl ?_
    refine go_get (v := .ref 19) (q := 16) dX8_feed_13 fX8_60 (wg_0 _) rfl rfl ?_
    refine go_iload_n (q := 17) dX8_feed_16 rfl rfl ?_
    obtain ⟨r4, e5, h⟩ := g_bind h
    refine go_callV0 (q := 20) (as := [.int x1]) (rest := []) (st2 := []) (w2 := wW r4) dX8_feed_17 cX8_177 (t_X6_addFour s x1 _ e5) (wg_19 _) rfl rfl rfl (Nat.le_of_ble_eq_true rfl) (by decide) ⟨Nat.le_refl _, Nat.le_refl _⟩ rfl rfl ?_
    refine go_aload_n (q := 21) dX8_feed_20 rfl rfl ?_
    refine go_get (v := .ref 19) (q := 24) dX8_feed_21 fX8_60 (wg_0 _) rfl rfl ?_
    refine go_iload_n (q := 25) dX8_feed_24 rfl rfl ?_
    obtain ⟨r6, e7, h⟩ := g_bind h
    refine go_callV0 (q := 28) (as := [.int x2]) (rest := []) (st2 := []) (w2 := wW r6) dX8_feed_25 cX8_177 (t_X6_addFour r4 x2 _ e7) (wg_19 _) rfl rfl rfl (Nat.le_of_ble_eq_true rfl) (by decide) ⟨Nat.le_refl _, Nat.le_refl _⟩ rfl rfl ?_
    refine go_aload_n (q := 29) dX8_feed_28 rfl rfl ?_
    refine go_get (v := .ref 19) (q := 32) dX8_feed_29 fX8_60 (wg_0 _) rfl rfl ?_
    refine go_iload_n (q := 33) dX8_feed_32 rfl rfl ?_
    obtain ⟨r8, e9, h⟩ := g_bind h
    refine go_callV0 (q := 36) (as := [.int x3]) (rest := []) (st2 := []) (w2 := wW r8) dX8_feed_33 cX8_177 (t_X6_addFour r6 x3 _ e9) (wg_19 _) rfl rfl rfl (Nat.le_of_ble_eq_true rfl) (by decide) ⟨Nat.le_refl _, Nat.le_refl _⟩ rfl rfl ?_
    refine go_aload_n (q := 37) dX8_feed_36 rfl rfl ?_
    refine go_get (v := .ref 19) (q := 40) dX8_feed_37 fX8_60 (wg_0 _) rfl rfl ?_
    refine go_iload (q := 42) dX8_feed_40 rfl rfl ?_
    obtain ⟨r10, e11, h⟩ := g_bind h
    refine go_callV0 (q := 45) (as := [.int x4]) (rest := []) (st2 := []) (w2 := wW r10) dX8_feed_42 cX8_177 (t_X6_addFour r8 x4 _ e11) (wg_19 _) rfl rfl rfl (Nat.le_of_ble_eq_true rfl) (by decide) ⟨Nat.le_refl _, Nat.le_refl _⟩ rfl rfl ?_
    refine go_aload_n (q := 46) dX8_feed_45 rfl rfl ?_
    refine go_get (v := .ref 19) (q := 49) dX8_feed_46 fX8_60 (wg_0 _) rfl rfl ?_
    refine go_iload (q := 51) dX8_feed_49 rfl rfl ?_
    obtain ⟨r12, e13, h⟩ := g_bind h
    refine go_callV0 (q := 54) (as := [.int x5]) (rest := []) (st2 := []) (w2 := wW r12) dX8_feed_51 cX8_177 (t_X6_addFour r10 x5 _ e13) (wg_19 _) rfl rfl rfl (Nat.le_of_ble_eq_true rfl) (by decide) ⟨Nat.le_refl _, Nat.le_refl _⟩ rfl rfl ?_
    refine go_aload_n (q := 55) dX8_feed_54 rfl rfl ?_
    refine go_get (v := .ref 19) (q := 58) dX8_feed_55 fX8_60 (wg_0 _) rfl rfl ?_
    refine go_get (v := .int (r12.1 12)) (q := 61) dX8_feed_58 fX8_180 (wg_19 _) rfl rfl ?_
    cases h
    exact go_iret dX8_feed_61 rfl rfl (Nat.le_refl _) (Nat.le_refl _) ⟨rfl, rfl⟩
  · replace h := g_pos c3 h
    refine go_iconst (v := (-1 : Int32)) (q := 11) dX8_feed_10 (by decide) rfl ?_
    cases h
    exact go_iret dX8_feed_11 rfl rfl (Nat.le_refl _) (Nat.le_refl _) ⟨rfl, rfl⟩
theorem t_X8_feed (s : gS) (x1 : Int32) (x2 : Int32) (x3 : Int32) (x4 : Int32) (x5 : Int32) (r : Int32 × gS) (h : f_X8_feed s x1 x2 x3 x4 x5 = some r) : Cal 2 mX8_feed [.ref 0, .int x1, .int x2, .int x3, .int x4, .int x5] (wW s) 0 0 (some (.int r.1)) (wW r.2) := Cal.of (by decide) (g_cats rfl) (Nat.le_of_ble_eq_true rfl) (b_X8_feed r s x1 x2 x3 x4 x5 h)
def f_X8_read_113 (s : gS) (x2 : Int32) (x3 : Int32) : Option (Int32 × gS) :=
  (f_X6_finish s x3).bind fun r1 =>
  some ((r1.1 7) - x2, r1)
set_option maxHeartbeats 4000000 in
set_option maxRecDepth 100000 in
theorem b_X8_read_113 (r : Int32 × gS) : ∀ (s : gS) (x2 : Int32) (x3 : Int32) , f_X8_read_113 s x2 x3 = some r → Go gTr yX8_read cX8_read 5 (some .int) 6 0 0 (fun r9 w9 => r9 = some (.int r.1) ∧ w9 = wW r.2) 0 0 (wW s) 113 [some (.ref 0), none, some (.int x2), some (.int x3), none] [] := by
  intro s x2 x3 h
  rw [f_X8_read_113] at h
  refine go_aload_n (q := 114) dX8_read_113 rfl rfl ?_
  refine go_get (v := .ref 19) (q := 117) dX8_read_114 fX8_60 (wg_0 _) rfl rfl ?_
  refine go_iload_n (q := 118) dX8_read_117 rfl rfl ?_
  obtain ⟨r1, e2, h⟩ := g_bind h
  refine go_callV0 (q := 121) (as := [.int x3]) (rest := []) (st2 := []) (w2 := wW r1) dX8_read_118 cX8_202 (t_X6_finish s x3 _ e2) (wg_19 _) rfl rfl rfl (Nat.le_of_ble_eq_true rfl) (by decide) ⟨Nat.le_refl _, Nat.le_refl _⟩ rfl rfl ?_
  refine go_aload_n (q := 122) dX8_read_121 rfl rfl ?_
  refine go_get (v := .ref 2) (q := 125) dX8_read_122 fX8_21 (wg_0 _) rfl rfl ?_
  refine go_get (v := .int (r1.1 7)) (q := 128) dX8_read_125 fX8_89 (wg_2 _) rfl rfl ?_
  refine go_iload_n (q := 129) dX8_read_128 rfl rfl ?_
  refine go_isub (q := 130) dX8_read_129 rfl ?_
  cases h
  exact go_iret dX8_read_130 rfl rfl (Nat.le_refl _) (Nat.le_refl _) ⟨rfl, rfl⟩
def f_X8_read_30 : Nat → gS → Int32 → Int32 → Int32 → Int32 → Option (Int32 × gS)
  | 0, _, _, _, _, _ => none
  | φ + 1, s, x1, x2, x3, x4 =>
    if x1 ≤ x4 then
      f_X8_read_113 s x2 x3
    else
      if x1 ≤ x3 then
        f_X8_read_113 s x2 x3
      else
        (f_X6_readWords s x3 x1 ((s.1 7) + 1)).bind fun r3 =>
        if r3.1 = 0 then
          f_X8_read_113 r3.2 x2 x3
        else
          (f_X0_bitAt r3.2 (r3.2.1 14) (r3.2.1 15)).bind fun r6 =>
          (f_X8_setStone r3.2 r6).bind fun r8 =>
          if r8.1 = 0 then
            f_X8_read_113 r8.2 x2 x3
          else
            f_X8_read_30 φ r8.2 x1 x2 (if x1 < ((r8.2.1 16) + 1) then x1 else ((r8.2.1 16) + 1)) (x4 + 1)
set_option maxHeartbeats 4000000 in
set_option maxRecDepth 100000 in
theorem b_X8_read_30 (r : Int32 × gS) : ∀ (φ : Nat) (s : gS) (x1 : Int32) (x2 : Int32) (x3 : Int32) (x4 : Int32) , f_X8_read_30 φ s x1 x2 x3 x4 = some r → Go gTr yX8_read cX8_read 5 (some .int) 6 0 0 (fun r9 w9 => r9 = some (.int r.1) ∧ w9 = wW r.2) 0 0 (wW s) 30 [some (.ref 0), some (.int x1), some (.int x2), some (.int x3), some (.int x4)] [] := by
  intro φ
  induction φ with
  | zero =>
    intro s x1 x2 x3 x4 h
    exact absurd h (by intro h0; cases h0)
  | succ φ ih =>
    intro s x1 x2 x3 x4 h
    rw [f_X8_read_30] at h
    refine go_iload (q := 32) dX8_read_30 rfl rfl ?_
    refine go_iload_n (q := 33) dX8_read_32 rfl rfl ?_
    refine go_icmp_ge (tgt := 113) (q := 36) dX8_read_33 (by decide) rfl (fun c1 => ?_) (fun c1 => ?_)
    · replace h := g_pos c1 h
      refine go_ls (ls2 := [some (.ref 0), none, some (.int x2), some (.int x3), none]) ⟨rfl, rfl, rfl, trivial⟩ ?_
      exact b_X8_read_113 r s x2 x3 h
    · replace h := g_neg c1 h
      refine go_iload_n (q := 37) dX8_read_36 rfl rfl ?_
      refine go_iload_n (q := 38) dX8_read_37 rfl rfl ?_
      refine go_icmp_ge (tgt := 113) (q := 41) dX8_read_38 (by decide) rfl (fun c2 => ?_) (fun c2 => ?_)
      · replace h := g_pos c2 h
        refine go_ls (ls2 := [some (.ref 0), none, some (.int x2), some (.int x3), none]) ⟨rfl, rfl, rfl, trivial⟩ ?_
        exact b_X8_read_113 r s x2 x3 h
      · replace h := g_neg c2 h
        refine go_aload_n (q := 42) dX8_read_41 rfl rfl ?_
        refine go_get (v := .ref 19) (q := 45) dX8_read_42 fX8_60 (wg_0 _) rfl rfl ?_
        refine go_iload_n (q := 46) dX8_read_45 rfl rfl ?_
        refine go_iload_n (q := 47) dX8_read_46 rfl rfl ?_
        refine go_aload_n (q := 48) dX8_read_47 rfl rfl ?_
        refine go_get (v := .ref 2) (q := 51) dX8_read_48 fX8_21 (wg_0 _) rfl rfl ?_
        refine go_get (v := .int (s.1 7)) (q := 54) dX8_read_51 fX8_89 (wg_2 _) rfl rfl ?_
        refine go_iconst (v := 1) (q := 55) dX8_read_54 (by decide) rfl ?_
        refine go_iadd (q := 56) dX8_read_55 rfl ?_
        obtain ⟨r3, e4, h⟩ := g_bind h
        refine go_callV0 (q := 59) (as := [.int x3, .int x1, .int ((s.1 7) + 1)]) (rest := []) (st2 := [.int r3.1]) (w2 := wW r3.2) dX8_read_56 cX8_181 (t_X6_readWords s x3 x1 ((s.1 7) + 1) _ e4) (wg_19 _) rfl rfl rfl (Nat.le_of_ble_eq_true rfl) (by decide) ⟨Nat.le_refl _, Nat.le_refl _⟩ rfl rfl ?_
        refine go_if_eq (tgt := 113) (q := 62) dX8_read_59 (by decide) rfl (fun c5 => ?_) (fun c5 => ?_)
        · replace h := g_pos c5 h
          refine go_ls (ls2 := [some (.ref 0), none, some (.int x2), some (.int x3), none]) ⟨rfl, rfl, rfl, trivial⟩ ?_
          exact b_X8_read_113 r r3.2 x2 x3 h
        · replace h := g_neg c5 h
          refine go_aload_n (q := 63) dX8_read_62 rfl rfl ?_
          refine go_aload_n (q := 64) dX8_read_63 rfl rfl ?_
          refine go_get (v := .ref 1) (q := 67) dX8_read_64 fX8_10 (wg_0 _) rfl rfl ?_
          refine go_aload_n (q := 68) dX8_read_67 rfl rfl ?_
          refine go_get (v := .ref 19) (q := 71) dX8_read_68 fX8_60 (wg_0 _) rfl rfl ?_
          refine go_get (v := .int (r3.2.1 14)) (q := 74) dX8_read_71 fX8_185 (wg_19 _) rfl rfl ?_
          refine go_aload_n (q := 75) dX8_read_74 rfl rfl ?_
          refine go_get (v := .ref 19) (q := 78) dX8_read_75 fX8_60 (wg_0 _) rfl rfl ?_
          refine go_get (v := .int (r3.2.1 15)) (q := 81) dX8_read_78 fX8_188 (wg_19 _) rfl rfl ?_
          obtain ⟨r6, e7, h⟩ := g_bind h
          refine go_callV0 (q := 84) (as := [.int (r3.2.1 14), .int (r3.2.1 15)]) (rest := [.ref 0]) (st2 := [.int r6, .ref 0]) (w2 := wW r3.2) dX8_read_81 cX8_191 (t_X0_bitAt r3.2 (r3.2.1 14) (r3.2.1 15) _ e7) (wg_1 _) rfl rfl rfl (Nat.le_of_ble_eq_true rfl) (by decide) ⟨Nat.le_refl _, Nat.le_refl _⟩ rfl rfl ?_
          obtain ⟨r8, e9, h⟩ := g_bind h
          refine go_callV0 (q := 87) (as := [.int r6]) (rest := []) (st2 := [.int r8.1]) (w2 := wW r8.2) dX8_read_84 cX8_85 (t_X8_setStone r3.2 r6 _ e9) (wg_0 _) rfl rfl rfl (Nat.le_of_ble_eq_true rfl) (by decide) ⟨Nat.le_refl _, Nat.le_refl _⟩ rfl rfl ?_
          refine go_if_ne (tgt := 93) (q := 90) dX8_read_87 (by decide) rfl (fun c10 => ?_) (fun c10 => ?_)
          · replace h := g_neg c10 h
            refine go_aload_n (q := 94) dX8_read_93 rfl rfl ?_
            refine go_get (v := .ref 19) (q := 97) dX8_read_94 fX8_60 (wg_0 _) rfl rfl ?_
            refine go_get (v := .int (r8.2.1 16)) (q := 100) dX8_read_97 fX8_194 (wg_19 _) rfl rfl ?_
            refine go_iconst (v := 1) (q := 101) dX8_read_100 (by decide) rfl ?_
            refine go_iadd (q := 102) dX8_read_101 rfl ?_
            refine go_iload_n (q := 103) dX8_read_102 rfl rfl ?_
            refine go_mmin (q := 106) dX8_read_103 cmX8_197 (by decide) (Nat.le_of_ble_eq_true rfl) ⟨Nat.le_refl _, Nat.le_refl _⟩ rfl ?_
            refine go_istore_n (ls2 := [some (.ref 0), some (.int x1), some (.int x2), some (.int (if x1 < ((r8.2.1 16) + 1) then x1 else ((r8.2.1 16) + 1))), some (.int x4)]) (q := 107) dX8_read_106 (by decide) rfl rfl ?_
            refine go_iinc (v := x4 + 1) (ls2 := [some (.ref 0), some (.int x1), some (.int x2), some (.int (if x1 < ((r8.2.1 16) + 1) then x1 else ((r8.2.1 16) + 1))), some (.int (x4 + 1))]) (q := 110) dX8_read_107 (by decide) rfl rfl rfl rfl ?_
            refine go_goto (tgt := 30) dX8_read_110 (by decide) ?_
            refine go_ls (ls2 := [some (.ref 0), some (.int x1), some (.int x2), some (.int (if x1 < ((r8.2.1 16) + 1) then x1 else ((r8.2.1 16) + 1))), some (.int (x4 + 1))]) ⟨rfl, rfl, rfl, rfl, rfl, trivial⟩ ?_
            exact ih r8.2 x1 x2 (if x1 < ((r8.2.1 16) + 1) then x1 else ((r8.2.1 16) + 1)) (x4 + 1) h
          · replace h := g_pos c10 h
            refine go_goto (tgt := 113) dX8_read_90 (by decide) ?_
            refine go_ls (ls2 := [some (.ref 0), none, some (.int x2), some (.int x3), none]) ⟨rfl, rfl, rfl, trivial⟩ ?_
            exact b_X8_read_113 r r8.2 x2 x3 h
def f_X8_read (s : gS) (x1 : Int32) : Option (Int32 × gS) :=
  if x1 < 0 then
    some ((-1 : Int32), s)
  else
    if x1 ≤ (s.1 12) then
      f_X8_read_30 gφ s x1 (s.1 7) 0 0
    else
      some ((-1 : Int32), s)
set_option maxHeartbeats 4000000 in
set_option maxRecDepth 100000 in
theorem b_X8_read (r : Int32 × gS) : ∀ (s : gS) (x1 : Int32) , f_X8_read s x1 = some r → Go gTr yX8_read cX8_read 5 (some .int) 6 0 0 (fun r9 w9 => r9 = some (.int r.1) ∧ w9 = wW r.2) 0 0 (wW s) 0 [some (.ref 0), some (.int x1), none, none, none] [] := by
  intro s x1 h
  rw [f_X8_read] at h
  refine go_iload_n (q := 1) dX8_read_0 rfl rfl ?_
  refine go_if_lt (tgt := 15) (q := 4) dX8_read_1 (by decide) rfl (fun c1 => ?_) (fun c1 => ?_)
  · replace h := g_pos c1 h
    refine go_iconst (v := (-1 : Int32)) (q := 16) dX8_read_15 (by decide) rfl ?_
    cases h
    exact go_iret dX8_read_16 rfl rfl (Nat.le_refl _) (Nat.le_refl _) ⟨rfl, rfl⟩
  · replace h := g_neg c1 h
    refine go_iload_n (q := 5) dX8_read_4 rfl rfl ?_
    refine go_aload_n (q := 6) dX8_read_5 rfl rfl ?_
    refine go_get (v := .ref 19) (q := 9) dX8_read_6 fX8_60 (wg_0 _) rfl rfl ?_
    refine go_get (v := .int (s.1 12)) (q := 12) dX8_read_9 fX8_180 (wg_19 _) rfl rfl ?_
    refine go_icmp_le (tgt := 17) (q := 15) dX8_read_12 (by decide) rfl (fun c2 => ?_) (fun c2 => ?_)
    · replace h := g_pos c2 h
      refine go_aload_n (q := 18) dX8_read_17 rfl rfl ?_
      refine go_get (v := .ref 2) (q := 21) dX8_read_18 fX8_21 (wg_0 _) rfl rfl ?_
      refine go_get (v := .int (s.1 7)) (q := 24) dX8_read_21 fX8_89 (wg_2 _) rfl rfl ?_
      refine go_istore_n (ls2 := [some (.ref 0), some (.int x1), some (.int (s.1 7)), none, none]) (q := 25) dX8_read_24 (by decide) rfl rfl ?_
      refine go_iconst (v := 0) (q := 26) dX8_read_25 (by decide) rfl ?_
      refine go_istore_n (ls2 := [some (.ref 0), some (.int x1), some (.int (s.1 7)), some (.int 0), none]) (q := 27) dX8_read_26 (by decide) rfl rfl ?_
      refine go_iconst (v := 0) (q := 28) dX8_read_27 (by decide) rfl ?_
      refine go_istore (ls2 := [some (.ref 0), some (.int x1), some (.int (s.1 7)), some (.int 0), some (.int 0)]) (q := 30) dX8_read_28 (by decide) rfl rfl ?_
      refine go_ls (ls2 := [some (.ref 0), some (.int x1), some (.int (s.1 7)), some (.int 0), some (.int 0)]) ⟨rfl, rfl, rfl, rfl, rfl, trivial⟩ ?_
      exact b_X8_read_30 r gφ s x1 (s.1 7) 0 0 h
    · replace h := g_neg c2 h
      refine go_iconst (v := (-1 : Int32)) (q := 16) dX8_read_15 (by decide) rfl ?_
      cases h
      exact go_iret dX8_read_16 rfl rfl (Nat.le_refl _) (Nat.le_refl _) ⟨rfl, rfl⟩
theorem t_X8_read (s : gS) (x1 : Int32) (r : Int32 × gS) (h : f_X8_read s x1 = some r) : Cal 6 mX8_read [.ref 0, .int x1] (wW s) 0 0 (some (.int r.1)) (wW r.2) := Cal.of (by decide) (g_cats rfl) (Nat.le_of_ble_eq_true rfl) (b_X8_read r s x1 h)
def f_X8_ownerOf (s : gS) (x1 : Int32) : Option Int32 :=
  (f_X0_bitOf s x1).bind fun r1 =>
  if r1 = 0 then
    some (-1 : Int32)
  else
    (f_X3_stonesOf s 0 (s.1 7)).bind fun r4 =>
    if (r4 &&& r1) = 0 then
      (f_X3_stonesOf s 1 (s.1 7)).bind fun r7 =>
      if (r7 &&& r1) = 0 then
        some 2
      else
        some 1
    else
      some 0
set_option maxHeartbeats 4000000 in
set_option maxRecDepth 100000 in
theorem b_X8_ownerOf (s : gS) (r : Int32) : ∀ (x1 : Int32) , f_X8_ownerOf s x1 = some r → Go gTr yX8_ownerOf cX8_ownerOf 3 (some .int) 3 0 0 (fun r9 w9 => r9 = some (.int r) ∧ w9 = wW s) 0 0 (wW s) 0 [some (.ref 0), some (.int x1), none] [] := by
  intro x1 h
  rw [f_X8_ownerOf] at h
  refine go_aload_n (q := 1) dX8_ownerOf_0 rfl rfl ?_
  refine go_get (v := .ref 1) (q := 4) dX8_ownerOf_1 fX8_10 (wg_0 _) rfl rfl ?_
  refine go_iload_n (q := 5) dX8_ownerOf_4 rfl rfl ?_
  obtain ⟨r1, e2, h⟩ := g_bind h
  refine go_callV0 (q := 8) (as := [.int x1]) (rest := []) (st2 := [.int r1]) (w2 := wW s) dX8_ownerOf_5 cX8_81 (t_X0_bitOf s x1 _ e2) (wg_1 _) rfl rfl rfl (Nat.le_of_ble_eq_true rfl) (by decide) ⟨Nat.le_refl _, Nat.le_refl _⟩ rfl rfl ?_
  refine go_istore_n (ls2 := [some (.ref 0), some (.int x1), some (.int r1)]) (q := 9) dX8_ownerOf_8 (by decide) rfl rfl ?_
  refine go_iload_n (q := 10) dX8_ownerOf_9 rfl rfl ?_
  refine go_if_ne (tgt := 15) (q := 13) dX8_ownerOf_10 (by decide) rfl (fun c3 => ?_) (fun c3 => ?_)
  · replace h := g_neg c3 h
    refine go_aload_n (q := 16) dX8_ownerOf_15 rfl rfl ?_
    refine go_get (v := .ref 2) (q := 19) dX8_ownerOf_16 fX8_21 (wg_0 _) rfl rfl ?_
    refine go_iconst (v := 0) (q := 20) dX8_ownerOf_19 (by decide) rfl ?_
    refine go_aload_n (q := 21) dX8_ownerOf_20 rfl rfl ?_
    refine go_get (v := .ref 2) (q := 24) dX8_ownerOf_21 fX8_21 (wg_0 _) rfl rfl ?_
    refine go_get (v := .int (s.1 7)) (q := 27) dX8_ownerOf_24 fX8_89 (wg_2 _) rfl rfl ?_
    obtain ⟨r4, e5, h⟩ := g_bind h
    refine go_callV0 (q := 30) (as := [.int 0, .int (s.1 7)]) (rest := []) (st2 := [.int r4]) (w2 := wW s) dX8_ownerOf_27 cX8_114 (t_X3_stonesOf s 0 (s.1 7) _ e5) (wg_2 _) rfl rfl rfl (Nat.le_of_ble_eq_true rfl) (by decide) ⟨Nat.le_refl _, Nat.le_refl _⟩ rfl rfl ?_
    refine go_iload_n (q := 31) dX8_ownerOf_30 rfl rfl ?_
    refine go_iand (q := 32) dX8_ownerOf_31 rfl ?_
    refine go_if_eq (tgt := 37) (q := 35) dX8_ownerOf_32 (by decide) rfl (fun c6 => ?_) (fun c6 => ?_)
    · replace h := g_pos c6 h
      refine go_aload_n (q := 38) dX8_ownerOf_37 rfl rfl ?_
      refine go_get (v := .ref 2) (q := 41) dX8_ownerOf_38 fX8_21 (wg_0 _) rfl rfl ?_
      refine go_iconst (v := 1) (q := 42) dX8_ownerOf_41 (by decide) rfl ?_
      refine go_aload_n (q := 43) dX8_ownerOf_42 rfl rfl ?_
      refine go_get (v := .ref 2) (q := 46) dX8_ownerOf_43 fX8_21 (wg_0 _) rfl rfl ?_
      refine go_get (v := .int (s.1 7)) (q := 49) dX8_ownerOf_46 fX8_89 (wg_2 _) rfl rfl ?_
      obtain ⟨r7, e8, h⟩ := g_bind h
      refine go_callV0 (q := 52) (as := [.int 1, .int (s.1 7)]) (rest := []) (st2 := [.int r7]) (w2 := wW s) dX8_ownerOf_49 cX8_114 (t_X3_stonesOf s 1 (s.1 7) _ e8) (wg_2 _) rfl rfl rfl (Nat.le_of_ble_eq_true rfl) (by decide) ⟨Nat.le_refl _, Nat.le_refl _⟩ rfl rfl ?_
      refine go_iload_n (q := 53) dX8_ownerOf_52 rfl rfl ?_
      refine go_iand (q := 54) dX8_ownerOf_53 rfl ?_
      refine go_if_eq (tgt := 61) (q := 57) dX8_ownerOf_54 (by decide) rfl (fun c9 => ?_) (fun c9 => ?_)
      · replace h := g_pos c9 h
        refine go_iconst (v := 2) (q := 62) dX8_ownerOf_61 (by decide) rfl ?_
        cases h
        exact go_iret dX8_ownerOf_62 rfl rfl (Nat.le_refl _) (Nat.le_refl _) ⟨rfl, rfl⟩
      · replace h := g_neg c9 h
        refine go_iconst (v := 1) (q := 58) dX8_ownerOf_57 (by decide) rfl ?_
        refine go_goto (tgt := 62) dX8_ownerOf_58 (by decide) ?_
        cases h
        exact go_iret dX8_ownerOf_62 rfl rfl (Nat.le_refl _) (Nat.le_refl _) ⟨rfl, rfl⟩
    · replace h := g_neg c6 h
      refine go_iconst (v := 0) (q := 36) dX8_ownerOf_35 (by decide) rfl ?_
      cases h
      exact go_iret dX8_ownerOf_36 rfl rfl (Nat.le_refl _) (Nat.le_refl _) ⟨rfl, rfl⟩
  · replace h := g_pos c3 h
    refine go_iconst (v := (-1 : Int32)) (q := 14) dX8_ownerOf_13 (by decide) rfl ?_
    cases h
    exact go_iret dX8_ownerOf_14 rfl rfl (Nat.le_refl _) (Nat.le_refl _) ⟨rfl, rfl⟩
theorem t_X8_ownerOf (s : gS) (x1 : Int32) (r : Int32) (h : f_X8_ownerOf s x1 = some r) : Cal 3 mX8_ownerOf [.ref 0, .int x1] (wW s) 0 0 (some (.int r)) (wW s) := Cal.of (by decide) (g_cats rfl) (Nat.le_of_ble_eq_true rfl) (b_X8_ownerOf s r x1 h)
def f_X8_lookAtState (s : gS) (x1 : Int32) : Option Int32 :=
  if x1 = 0 then
    some (s.1 0)
  else
    if x1 = 1 then
      some (s.1 1)
    else
      if x1 = 2 then
        some (s.1 2)
      else
        if x1 = 3 then
          if (s.1 3) = 0 then
            some 0
          else
            some 1
        else
          if x1 = 4 then
            if (s.1 4) = 0 then
              some 0
            else
              some 1
          else
            if x1 = 5 then
              some (s.1 7)
            else
              if x1 = 6 then
                some (s.1 8)
              else
                if x1 = 7 then
                  (f_X3_hasEndedBehind s (s.1 7)).bind fun r11 =>
                  if r11 = 0 then
                    some ((s.1 7) &&& 1)
                  else
                    some (-1 : Int32)
                else
                  if x1 = 8 then
                    some (s.1 9)
                  else
                    if x1 = 9 then
                      some (s.1 12)
                    else
                      if x1 = 10 then
                        some (s.1 13)
                      else
                        some (-1 : Int32)
set_option maxHeartbeats 4000000 in
set_option maxRecDepth 100000 in
theorem b_X8_lookAtState (s : gS) (r : Int32) : ∀ (x1 : Int32) , f_X8_lookAtState s x1 = some r → Go gTr yX8_lookAtState cX8_lookAtState 2 (some .int) 2 0 0 (fun r9 w9 => r9 = some (.int r) ∧ w9 = wW s) 0 0 (wW s) 0 [some (.ref 0), some (.int x1)] [] := by
  intro x1 h
  rw [f_X8_lookAtState] at h
  refine go_iload_n (q := 1) dX8_lookAtState_0 rfl rfl ?_
  by_cases c1 : x1 = 0
  · replace h := g_pos c1 h
    refine go_tblIn (off := 59) (tgt := 60) dX8_lookAtState_1 (by rw [c1]; decide) (by rw [c1]; decide) (by rw [c1]; rfl) (by decide) ?_
    refine go_aload_n (q := 61) dX8_lookAtState_60 rfl rfl ?_
    refine go_get (v := .ref 1) (q := 64) dX8_lookAtState_61 fX8_10 (wg_0 _) rfl rfl ?_
    refine go_get (v := .int (s.1 0)) (q := 67) dX8_lookAtState_64 fX8_217 (wg_1 _) rfl rfl ?_
    cases h
    exact go_iret dX8_lookAtState_67 rfl rfl (Nat.le_refl _) (Nat.le_refl _) ⟨rfl, rfl⟩
  replace h := g_neg c1 h
  by_cases c2 : x1 = 1
  · replace h := g_pos c2 h
    refine go_tblIn (off := 67) (tgt := 68) dX8_lookAtState_1 (by rw [c2]; decide) (by rw [c2]; decide) (by rw [c2]; rfl) (by decide) ?_
    refine go_aload_n (q := 69) dX8_lookAtState_68 rfl rfl ?_
    refine go_get (v := .ref 1) (q := 72) dX8_lookAtState_69 fX8_10 (wg_0 _) rfl rfl ?_
    refine go_get (v := .int (s.1 1)) (q := 75) dX8_lookAtState_72 fX8_220 (wg_1 _) rfl rfl ?_
    cases h
    exact go_iret dX8_lookAtState_75 rfl rfl (Nat.le_refl _) (Nat.le_refl _) ⟨rfl, rfl⟩
  replace h := g_neg c2 h
  by_cases c3 : x1 = 2
  · replace h := g_pos c3 h
    refine go_tblIn (off := 75) (tgt := 76) dX8_lookAtState_1 (by rw [c3]; decide) (by rw [c3]; decide) (by rw [c3]; rfl) (by decide) ?_
    refine go_aload_n (q := 77) dX8_lookAtState_76 rfl rfl ?_
    refine go_get (v := .ref 1) (q := 80) dX8_lookAtState_77 fX8_10 (wg_0 _) rfl rfl ?_
    refine go_get (v := .int (s.1 2)) (q := 83) dX8_lookAtState_80 fX8_223 (wg_1 _) rfl rfl ?_
    cases h
    exact go_iret dX8_lookAtState_83 rfl rfl (Nat.le_refl _) (Nat.le_refl _) ⟨rfl, rfl⟩
  replace h := g_neg c3 h
  by_cases c4 : x1 = 3
  · replace h := g_pos c4 h
    refine go_tblIn (off := 83) (tgt := 84) dX8_lookAtState_1 (by rw [c4]; decide) (by rw [c4]; decide) (by rw [c4]; rfl) (by decide) ?_
    refine go_aload_n (q := 85) dX8_lookAtState_84 rfl rfl ?_
    refine go_get (v := .ref 1) (q := 88) dX8_lookAtState_85 fX8_10 (wg_0 _) rfl rfl ?_
    refine go_get (v := .int (s.1 3)) (q := 91) dX8_lookAtState_88 fX8_226 (wg_1 _) rfl rfl ?_
    refine go_if_eq (tgt := 98) (q := 94) dX8_lookAtState_91 (by decide) rfl (fun c5 => ?_) (fun c5 => ?_)
    · replace h := g_pos c5 h
      refine go_iconst (v := 0) (q := 99) dX8_lookAtState_98 (by decide) rfl ?_
      cases h
      exact go_iret dX8_lookAtState_99 rfl rfl (Nat.le_refl _) (Nat.le_refl _) ⟨rfl, rfl⟩
    · replace h := g_neg c5 h
      refine go_iconst (v := 1) (q := 95) dX8_lookAtState_94 (by decide) rfl ?_
      refine go_goto (tgt := 99) dX8_lookAtState_95 (by decide) ?_
      cases h
      exact go_iret dX8_lookAtState_99 rfl rfl (Nat.le_refl _) (Nat.le_refl _) ⟨rfl, rfl⟩
  replace h := g_neg c4 h
  by_cases c6 : x1 = 4
  · replace h := g_pos c6 h
    refine go_tblIn (off := 99) (tgt := 100) dX8_lookAtState_1 (by rw [c6]; decide) (by rw [c6]; decide) (by rw [c6]; rfl) (by decide) ?_
    refine go_aload_n (q := 101) dX8_lookAtState_100 rfl rfl ?_
    refine go_get (v := .ref 1) (q := 104) dX8_lookAtState_101 fX8_10 (wg_0 _) rfl rfl ?_
    refine go_get (v := .int (s.1 4)) (q := 107) dX8_lookAtState_104 fX8_230 (wg_1 _) rfl rfl ?_
    refine go_if_eq (tgt := 114) (q := 110) dX8_lookAtState_107 (by decide) rfl (fun c7 => ?_) (fun c7 => ?_)
    · replace h := g_pos c7 h
      refine go_iconst (v := 0) (q := 115) dX8_lookAtState_114 (by decide) rfl ?_
      cases h
      exact go_iret dX8_lookAtState_115 rfl rfl (Nat.le_refl _) (Nat.le_refl _) ⟨rfl, rfl⟩
    · replace h := g_neg c7 h
      refine go_iconst (v := 1) (q := 111) dX8_lookAtState_110 (by decide) rfl ?_
      refine go_goto (tgt := 115) dX8_lookAtState_111 (by decide) ?_
      cases h
      exact go_iret dX8_lookAtState_115 rfl rfl (Nat.le_refl _) (Nat.le_refl _) ⟨rfl, rfl⟩
  replace h := g_neg c6 h
  by_cases c8 : x1 = 5
  · replace h := g_pos c8 h
    refine go_tblIn (off := 115) (tgt := 116) dX8_lookAtState_1 (by rw [c8]; decide) (by rw [c8]; decide) (by rw [c8]; rfl) (by decide) ?_
    refine go_aload_n (q := 117) dX8_lookAtState_116 rfl rfl ?_
    refine go_get (v := .ref 2) (q := 120) dX8_lookAtState_117 fX8_21 (wg_0 _) rfl rfl ?_
    refine go_get (v := .int (s.1 7)) (q := 123) dX8_lookAtState_120 fX8_89 (wg_2 _) rfl rfl ?_
    cases h
    exact go_iret dX8_lookAtState_123 rfl rfl (Nat.le_refl _) (Nat.le_refl _) ⟨rfl, rfl⟩
  replace h := g_neg c8 h
  by_cases c9 : x1 = 6
  · replace h := g_pos c9 h
    refine go_tblIn (off := 123) (tgt := 124) dX8_lookAtState_1 (by rw [c9]; decide) (by rw [c9]; decide) (by rw [c9]; rfl) (by decide) ?_
    refine go_aload_n (q := 125) dX8_lookAtState_124 rfl rfl ?_
    refine go_get (v := .ref 2) (q := 128) dX8_lookAtState_125 fX8_21 (wg_0 _) rfl rfl ?_
    refine go_get (v := .int (s.1 8)) (q := 131) dX8_lookAtState_128 fX8_233 (wg_2 _) rfl rfl ?_
    cases h
    exact go_iret dX8_lookAtState_131 rfl rfl (Nat.le_refl _) (Nat.le_refl _) ⟨rfl, rfl⟩
  replace h := g_neg c9 h
  by_cases c10 : x1 = 7
  · replace h := g_pos c10 h
    refine go_tblIn (off := 131) (tgt := 132) dX8_lookAtState_1 (by rw [c10]; decide) (by rw [c10]; decide) (by rw [c10]; rfl) (by decide) ?_
    refine go_aload_n (q := 133) dX8_lookAtState_132 rfl rfl ?_
    refine go_get (v := .ref 2) (q := 136) dX8_lookAtState_133 fX8_21 (wg_0 _) rfl rfl ?_
    refine go_aload_n (q := 137) dX8_lookAtState_136 rfl rfl ?_
    refine go_get (v := .ref 2) (q := 140) dX8_lookAtState_137 fX8_21 (wg_0 _) rfl rfl ?_
    refine go_get (v := .int (s.1 7)) (q := 143) dX8_lookAtState_140 fX8_89 (wg_2 _) rfl rfl ?_
    obtain ⟨r11, e12, h⟩ := g_bind h
    refine go_callV0 (q := 146) (as := [.int (s.1 7)]) (rest := []) (st2 := [.int r11]) (w2 := wW s) dX8_lookAtState_143 cX8_111 (t_X3_hasEndedBehind s (s.1 7) _ e12) (wg_2 _) rfl rfl rfl (Nat.le_of_ble_eq_true rfl) (by decide) ⟨Nat.le_refl _, Nat.le_refl _⟩ rfl rfl ?_
    refine go_if_eq (tgt := 153) (q := 149) dX8_lookAtState_146 (by decide) rfl (fun c13 => ?_) (fun c13 => ?_)
    · replace h := g_pos c13 h
      refine go_aload_n (q := 154) dX8_lookAtState_153 rfl rfl ?_
      refine go_get (v := .ref 2) (q := 157) dX8_lookAtState_154 fX8_21 (wg_0 _) rfl rfl ?_
      refine go_get (v := .int (s.1 7)) (q := 160) dX8_lookAtState_157 fX8_89 (wg_2 _) rfl rfl ?_
      refine go_iconst (v := 1) (q := 161) dX8_lookAtState_160 (by decide) rfl ?_
      refine go_iand (q := 162) dX8_lookAtState_161 rfl ?_
      cases h
      exact go_iret dX8_lookAtState_162 rfl rfl (Nat.le_refl _) (Nat.le_refl _) ⟨rfl, rfl⟩
    · replace h := g_neg c13 h
      refine go_iconst (v := (-1 : Int32)) (q := 150) dX8_lookAtState_149 (by decide) rfl ?_
      refine go_goto (tgt := 162) dX8_lookAtState_150 (by decide) ?_
      cases h
      exact go_iret dX8_lookAtState_162 rfl rfl (Nat.le_refl _) (Nat.le_refl _) ⟨rfl, rfl⟩
  replace h := g_neg c10 h
  by_cases c14 : x1 = 8
  · replace h := g_pos c14 h
    refine go_tblIn (off := 162) (tgt := 163) dX8_lookAtState_1 (by rw [c14]; decide) (by rw [c14]; decide) (by rw [c14]; rfl) (by decide) ?_
    refine go_aload_n (q := 164) dX8_lookAtState_163 rfl rfl ?_
    refine go_get (v := .ref 5) (q := 167) dX8_lookAtState_164 fX8_37 (wg_0 _) rfl rfl ?_
    refine go_get (v := .int (s.1 9)) (q := 170) dX8_lookAtState_167 fX8_236 (wg_5 _) rfl rfl ?_
    cases h
    exact go_iret dX8_lookAtState_170 rfl rfl (Nat.le_refl _) (Nat.le_refl _) ⟨rfl, rfl⟩
  replace h := g_neg c14 h
  by_cases c15 : x1 = 9
  · replace h := g_pos c15 h
    refine go_tblIn (off := 170) (tgt := 171) dX8_lookAtState_1 (by rw [c15]; decide) (by rw [c15]; decide) (by rw [c15]; rfl) (by decide) ?_
    refine go_aload_n (q := 172) dX8_lookAtState_171 rfl rfl ?_
    refine go_get (v := .ref 19) (q := 175) dX8_lookAtState_172 fX8_60 (wg_0 _) rfl rfl ?_
    refine go_get (v := .int (s.1 12)) (q := 178) dX8_lookAtState_175 fX8_180 (wg_19 _) rfl rfl ?_
    cases h
    exact go_iret dX8_lookAtState_178 rfl rfl (Nat.le_refl _) (Nat.le_refl _) ⟨rfl, rfl⟩
  replace h := g_neg c15 h
  by_cases c16 : x1 = 10
  · replace h := g_pos c16 h
    refine go_tblIn (off := 178) (tgt := 179) dX8_lookAtState_1 (by rw [c16]; decide) (by rw [c16]; decide) (by rw [c16]; rfl) (by decide) ?_
    refine go_aload_n (q := 180) dX8_lookAtState_179 rfl rfl ?_
    refine go_get (v := .ref 19) (q := 183) dX8_lookAtState_180 fX8_60 (wg_0 _) rfl rfl ?_
    refine go_get (v := .int (s.1 13)) (q := 186) dX8_lookAtState_183 fX8_239 (wg_19 _) rfl rfl ?_
    cases h
    exact go_iret dX8_lookAtState_186 rfl rfl (Nat.le_refl _) (Nat.le_refl _) ⟨rfl, rfl⟩
  replace h := g_neg c16 h
  refine go_tblOut (tgt := 187) dX8_lookAtState_1 (by have e_c1 := lv_neT c1 (a := 0) rfl; have e_c2 := lv_neT c2 (a := 1) rfl; have e_c3 := lv_neT c3 (a := 2) rfl; have e_c4 := lv_neT c4 (a := 3) rfl; have e_c6 := lv_neT c6 (a := 4) rfl; have e_c8 := lv_neT c8 (a := 5) rfl; have e_c9 := lv_neT c9 (a := 6) rfl; have e_c10 := lv_neT c10 (a := 7) rfl; have e_c14 := lv_neT c14 (a := 8) rfl; have e_c15 := lv_neT c15 (a := 9) rfl; have e_c16 := lv_neT c16 (a := 10) rfl; omega) (by decide) ?_
  refine go_iconst (v := (-1 : Int32)) (q := 188) dX8_lookAtState_187 (by decide) rfl ?_
  cases h
  exact go_iret dX8_lookAtState_188 rfl rfl (Nat.le_refl _) (Nat.le_refl _) ⟨rfl, rfl⟩
theorem t_X8_lookAtState (s : gS) (x1 : Int32) (r : Int32) (h : f_X8_lookAtState s x1 = some r) : Cal 2 mX8_lookAtState [.ref 0, .int x1] (wW s) 0 0 (some (.int r)) (wW s) := Cal.of (by decide) (g_cats rfl) (Nat.le_of_ble_eq_true rfl) (b_X8_lookAtState s r x1 h)
def f_X8_look (s : gS) (x1 : Int32) : Option Int32 :=
  if x1 < 60 then
    if x1 < 40 then
      if x1 < 20 then
        (f_X8_lookAtState s x1).bind fun r4 =>
        some r4
      else
        (f_X3_bitOfMove s ((x1 - 20) + 1)).bind fun r6 =>
        (f_X0_cellOf s r6).bind fun r8 =>
        some r8
    else
      (f_X8_ownerOf s (x1 - 40)).bind fun r10 =>
      some r10
  else
    (f_X2_weightOf s (x1 - 60)).bind fun r12 =>
    some r12
set_option maxHeartbeats 4000000 in
set_option maxRecDepth 100000 in
theorem b_X8_look (s : gS) (r : Int32) : ∀ (x1 : Int32) , f_X8_look s x1 = some r → Go gTr yX8_look cX8_look 2 (some .int) 4 0 0 (fun r9 w9 => r9 = some (.int r) ∧ w9 = wW s) 0 0 (wW s) 0 [some (.ref 0), some (.int x1)] [] := by
  intro x1 h
  rw [f_X8_look] at h
  refine go_iload_n (q := 1) dX8_look_0 rfl rfl ?_
  refine go_bipush (v := 60) (q := 3) dX8_look_1 (by decide) rfl ?_
  refine go_icmp_lt (tgt := 18) (q := 6) dX8_look_3 (by decide) rfl (fun c1 => ?_) (fun c1 => ?_)
  · replace h := g_pos c1 h
    refine go_iload_n (q := 19) dX8_look_18 rfl rfl ?_
    refine go_bipush (v := 40) (q := 21) dX8_look_19 (by decide) rfl ?_
    refine go_icmp_lt (tgt := 33) (q := 24) dX8_look_21 (by decide) rfl (fun c2 => ?_) (fun c2 => ?_)
    · replace h := g_pos c2 h
      refine go_iload_n (q := 34) dX8_look_33 rfl rfl ?_
      refine go_bipush (v := 20) (q := 36) dX8_look_34 (by decide) rfl ?_
      refine go_icmp_lt (tgt := 60) (q := 39) dX8_look_36 (by decide) rfl (fun c3 => ?_) (fun c3 => ?_)
      · replace h := g_pos c3 h
        refine go_aload_n (q := 61) dX8_look_60 rfl rfl ?_
        refine go_iload_n (q := 62) dX8_look_61 rfl rfl ?_
        obtain ⟨r4, e5, h⟩ := g_bind h
        refine go_callV0 (q := 65) (as := [.int x1]) (rest := []) (st2 := [.int r4]) (w2 := wW s) dX8_look_62 cX8_214 (t_X8_lookAtState s x1 _ e5) (wg_0 _) rfl rfl rfl (Nat.le_of_ble_eq_true rfl) (by decide) ⟨Nat.le_refl _, Nat.le_refl _⟩ rfl rfl ?_
        cases h
        exact go_iret dX8_look_65 rfl rfl (Nat.le_refl _) (Nat.le_refl _) ⟨rfl, rfl⟩
      · replace h := g_neg c3 h
        refine go_aload_n (q := 40) dX8_look_39 rfl rfl ?_
        refine go_get (v := .ref 1) (q := 43) dX8_look_40 fX8_10 (wg_0 _) rfl rfl ?_
        refine go_aload_n (q := 44) dX8_look_43 rfl rfl ?_
        refine go_get (v := .ref 2) (q := 47) dX8_look_44 fX8_21 (wg_0 _) rfl rfl ?_
        refine go_iload_n (q := 48) dX8_look_47 rfl rfl ?_
        refine go_bipush (v := 20) (q := 50) dX8_look_48 (by decide) rfl ?_
        refine go_isub (q := 51) dX8_look_50 rfl ?_
        refine go_iconst (v := 1) (q := 52) dX8_look_51 (by decide) rfl ?_
        refine go_iadd (q := 53) dX8_look_52 rfl ?_
        obtain ⟨r6, e7, h⟩ := g_bind h
        refine go_callV0 (q := 56) (as := [.int ((x1 - 20) + 1)]) (rest := [.ref 1]) (st2 := [.int r6, .ref 1]) (w2 := wW s) dX8_look_53 cX8_211 (t_X3_bitOfMove s ((x1 - 20) + 1) _ e7) (wg_2 _) rfl rfl rfl (Nat.le_of_ble_eq_true rfl) (by decide) ⟨Nat.le_refl _, Nat.le_refl _⟩ rfl rfl ?_
        obtain ⟨r8, e9, h⟩ := g_bind h
        refine go_callV0 (q := 59) (as := [.int r6]) (rest := []) (st2 := [.int r8]) (w2 := wW s) dX8_look_56 cX8_124 (t_X0_cellOf s r6 _ e9) (wg_1 _) rfl rfl rfl (Nat.le_of_ble_eq_true rfl) (by decide) ⟨Nat.le_refl _, Nat.le_refl _⟩ rfl rfl ?_
        cases h
        exact go_iret dX8_look_59 rfl rfl (Nat.le_refl _) (Nat.le_refl _) ⟨rfl, rfl⟩
    · replace h := g_neg c2 h
      refine go_aload_n (q := 25) dX8_look_24 rfl rfl ?_
      refine go_iload_n (q := 26) dX8_look_25 rfl rfl ?_
      refine go_bipush (v := 40) (q := 28) dX8_look_26 (by decide) rfl ?_
      refine go_isub (q := 29) dX8_look_28 rfl ?_
      obtain ⟨r10, e11, h⟩ := g_bind h
      refine go_callV0 (q := 32) (as := [.int (x1 - 40)]) (rest := []) (st2 := [.int r10]) (w2 := wW s) dX8_look_29 cX8_208 (t_X8_ownerOf s (x1 - 40) _ e11) (wg_0 _) rfl rfl rfl (Nat.le_of_ble_eq_true rfl) (by decide) ⟨Nat.le_refl _, Nat.le_refl _⟩ rfl rfl ?_
      cases h
      exact go_iret dX8_look_32 rfl rfl (Nat.le_refl _) (Nat.le_refl _) ⟨rfl, rfl⟩
  · replace h := g_neg c1 h
    refine go_aload_n (q := 7) dX8_look_6 rfl rfl ?_
    refine go_get (v := .ref 5) (q := 10) dX8_look_7 fX8_37 (wg_0 _) rfl rfl ?_
    refine go_iload_n (q := 11) dX8_look_10 rfl rfl ?_
    refine go_bipush (v := 60) (q := 13) dX8_look_11 (by decide) rfl ?_
    refine go_isub (q := 14) dX8_look_13 rfl ?_
    obtain ⟨r12, e13, h⟩ := g_bind h
    refine go_callV0 (q := 17) (as := [.int (x1 - 60)]) (rest := []) (st2 := [.int r12]) (w2 := wW s) dX8_look_14 cX8_205 (t_X2_weightOf s (x1 - 60) _ e13) (wg_5 _) rfl rfl rfl (Nat.le_of_ble_eq_true rfl) (by decide) ⟨Nat.le_refl _, Nat.le_refl _⟩ rfl rfl ?_
    cases h
    exact go_iret dX8_look_17 rfl rfl (Nat.le_refl _) (Nat.le_refl _) ⟨rfl, rfl⟩
theorem t_X8_look (s : gS) (x1 : Int32) (r : Int32) (h : f_X8_look s x1 = some r) : Cal 4 mX8_look [.ref 0, .int x1] (wW s) 0 0 (some (.int r)) (wW s) := Cal.of (by decide) (g_cats rfl) (Nat.le_of_ble_eq_true rfl) (b_X8_look s r x1 h)
