def f_X9_in (x0 : Int32) (x1 : Int32) (x2 : Int32) : Option Int32 :=
  if x0 < x1 then
    some 0
  else
    if x2 < x0 then
      some 0
    else
      some 1
set_option maxHeartbeats 4000000 in
set_option maxRecDepth 100000 in
theorem b_X9_in (w : List va_E) (r : Int32) : ∀ (x0 : Int32) (x1 : Int32) (x2 : Int32) , f_X9_in x0 x1 x2 = some r → Go gTr yX9_in cX9_in 3 (some .boolean) 1 0 0 (fun r9 w9 => r9 = some (.int r) ∧ w9 = w) 0 0 w 0 [some (.int x0), some (.int x1), some (.int x2)] [] := by
  intro x0 x1 x2 h
  rw [f_X9_in] at h
  refine go_iload_n (q := 1) dX9_in_0 rfl rfl ?_
  refine go_iload_n (q := 2) dX9_in_1 rfl rfl ?_
  refine go_icmp_lt (tgt := 14) (q := 5) dX9_in_2 (by decide) rfl (fun c1 => ?_) (fun c1 => ?_)
  · replace h := g_pos c1 h
    refine go_iconst (v := 0) (q := 15) dX9_in_14 (by decide) rfl ?_
    cases h
    exact go_iret dX9_in_15 rfl rfl (Nat.le_refl _) (Nat.le_refl _) ⟨rfl, rfl⟩
  · replace h := g_neg c1 h
    refine go_iload_n (q := 6) dX9_in_5 rfl rfl ?_
    refine go_iload_n (q := 7) dX9_in_6 rfl rfl ?_
    refine go_icmp_gt (tgt := 14) (q := 10) dX9_in_7 (by decide) rfl (fun c2 => ?_) (fun c2 => ?_)
    · replace h := g_pos c2 h
      refine go_iconst (v := 0) (q := 15) dX9_in_14 (by decide) rfl ?_
      cases h
      exact go_iret dX9_in_15 rfl rfl (Nat.le_refl _) (Nat.le_refl _) ⟨rfl, rfl⟩
    · replace h := g_neg c2 h
      refine go_iconst (v := 1) (q := 11) dX9_in_10 (by decide) rfl ?_
      refine go_goto (tgt := 15) dX9_in_11 (by decide) ?_
      cases h
      exact go_iret dX9_in_15 rfl rfl (Nat.le_refl _) (Nat.le_refl _) ⟨rfl, rfl⟩
theorem t_X9_in (w : List va_E) (x0 : Int32) (x1 : Int32) (x2 : Int32) (r : Int32) (h : f_X9_in x0 x1 x2 = some r) : Cal 1 mX9_in [.int x0, .int x1, .int x2] w 0 0 (some (.int r)) w := Cal.of (by decide) (g_cats rfl) (Nat.le_of_ble_eq_true rfl) (b_X9_in w r x0 x1 x2 h)
def f_X9_forgets_2 : Nat → gS → Int32 → Option gS
  | 0, _, _ => none
  | φ + 1, s, x1 =>
    if 17 ≤ x1 then
      some s
    else
      if inB x1 17 = true then
        f_X9_forgets_2 φ (sa s 27 x1.toNatClampNeg (0 &&& 1)) (x1 + 1)
      else none
set_option maxHeartbeats 4000000 in
set_option maxRecDepth 100000 in
theorem b_X9_forgets_2 (r : gS) : ∀ (φ : Nat) (s : gS) (x1 : Int32) , f_X9_forgets_2 φ s x1 = some r → Go gTr yX9_forgets cX9_forgets 2 none 1 0 0 (fun r9 w9 => r9 = none ∧ w9 = wW r) 0 0 (wW s) 2 [some (.ref 23), some (.int x1)] [] := by
  intro φ
  induction φ with
  | zero =>
    intro s x1 h
    exact absurd h (by intro h0; cases h0)
  | succ φ ih =>
    intro s x1 h
    rw [f_X9_forgets_2] at h
    refine go_iload_n (q := 3) dX9_forgets_2 rfl rfl ?_
    refine go_bipush (v := 17) (q := 5) dX9_forgets_3 (by decide) rfl ?_
    refine go_icmp_ge (tgt := 21) (q := 8) dX9_forgets_5 (by decide) rfl (fun c1 => ?_) (fun c1 => ?_)
    · replace h := g_pos c1 h
      cases h
      exact go_ret dX9_forgets_21 rfl (Nat.le_refl _) (Nat.le_refl _) ⟨rfl, rfl⟩
    · replace h := g_neg c1 h
      refine go_aload_n (q := 9) dX9_forgets_8 rfl rfl ?_
      refine go_get (v := .ref 31) (q := 12) dX9_forgets_9 fX9_44 (wg_23 _) rfl rfl ?_
      refine go_iload_n (q := 13) dX9_forgets_12 rfl rfl ?_
      refine go_iconst (v := 0) (q := 14) dX9_forgets_13 (by decide) rfl ?_
      obtain ⟨g2, h⟩ := g_guard h
      refine go_zast (w2 := wW (sa s 27 x1.toNatClampNeg (0 &&& 1))) (q := 15) dX9_forgets_14 (wg_31 _) (inB_in g2) (wa_31 _ _ _) rfl ?_
      refine go_iinc (v := x1 + 1) (ls2 := [some (.ref 23), some (.int (x1 + 1))]) (q := 18) dX9_forgets_15 (by decide) rfl rfl rfl rfl ?_
      refine go_goto (tgt := 2) dX9_forgets_18 (by decide) ?_
      refine go_ls (ls2 := [some (.ref 23), some (.int (x1 + 1))]) ⟨rfl, rfl, trivial⟩ ?_
      exact ih (sa s 27 x1.toNatClampNeg (0 &&& 1)) (x1 + 1) h
def f_X9_forgets (s : gS) : Option gS :=
  f_X9_forgets_2 gφ s 0
set_option maxHeartbeats 4000000 in
set_option maxRecDepth 100000 in
theorem b_X9_forgets (r : gS) : ∀ (s : gS) , f_X9_forgets s = some r → Go gTr yX9_forgets cX9_forgets 2 none 1 0 0 (fun r9 w9 => r9 = none ∧ w9 = wW r) 0 0 (wW s) 0 [some (.ref 23), none] [] := by
  intro s h
  rw [f_X9_forgets] at h
  refine go_iconst (v := 0) (q := 1) dX9_forgets_0 (by decide) rfl ?_
  refine go_istore_n (ls2 := [some (.ref 23), some (.int 0)]) (q := 2) dX9_forgets_1 (by decide) rfl rfl ?_
  refine go_ls (ls2 := [some (.ref 23), some (.int 0)]) ⟨rfl, rfl, trivial⟩ ?_
  exact b_X9_forgets_2 r gφ s 0 h
theorem t_X9_forgets (s : gS) (r : gS) (h : f_X9_forgets s = some r) : Cal 1 mX9_forgets [.ref 23] (wW s) 0 0 none (wW r) := Cal.of (by decide) (g_cats rfl) (Nat.le_of_ble_eq_true rfl) (b_X9_forgets r s h)
def f_X9_game_39 (s : gS) (x1 : Int32) (x2 : Int32) (x3 : Int32) (x4 : Int32) (x5 : Int32) : Option (Int32 × gS) :=
  if isZ x4 = true then
    if isZ x5 = true then
      (f_X9_forgets (ss (ss (ss (ss (ss (ss s 20 x1) 21 x2) 22 x3) 25 x4) 26 x5) 23 0)).bind fun r3 =>
      some (1, r3)
    else none
  else none
set_option maxHeartbeats 4000000 in
set_option maxRecDepth 100000 in
theorem b_X9_game_39 (r : Int32 × gS) : ∀ (s : gS) (x1 : Int32) (x2 : Int32) (x3 : Int32) (x4 : Int32) (x5 : Int32) , f_X9_game_39 s x1 x2 x3 x4 x5 = some r → Go gTr yX9_game cX9_game 6 (some .boolean) 2 0 0 (fun r9 w9 => r9 = some (.int r.1) ∧ w9 = wW r.2) 0 0 (wW s) 39 [some (.ref 23), some (.int x1), some (.int x2), some (.int x3), some (.int x4), some (.int x5)] [] := by
  intro s x1 x2 x3 x4 x5 h
  rw [f_X9_game_39] at h
  refine go_aload_n (q := 40) dX9_game_39 rfl rfl ?_
  refine go_iload_n (q := 41) dX9_game_40 rfl rfl ?_
  refine go_put (w2 := wW (ss s 20 x1)) (q := 44) dX9_game_41 fX9_7 (wg_23 _) (Nat.le_of_ble_eq_true rfl) (fun _ => rfl) (fun _ => rfl) (wp_23_0 _ _) rfl ?_
  refine go_aload_n (q := 45) dX9_game_44 rfl rfl ?_
  refine go_iload_n (q := 46) dX9_game_45 rfl rfl ?_
  refine go_put (w2 := wW (ss (ss s 20 x1) 21 x2)) (q := 49) dX9_game_46 fX9_13 (wg_23 _) (Nat.le_of_ble_eq_true rfl) (fun _ => rfl) (fun _ => rfl) (wp_23_1 _ _) rfl ?_
  refine go_aload_n (q := 50) dX9_game_49 rfl rfl ?_
  refine go_iload_n (q := 51) dX9_game_50 rfl rfl ?_
  refine go_put (w2 := wW (ss (ss (ss s 20 x1) 21 x2) 22 x3)) (q := 54) dX9_game_51 fX9_16 (wg_23 _) (Nat.le_of_ble_eq_true rfl) (fun _ => rfl) (fun _ => rfl) (wp_23_2 _ _) rfl ?_
  refine go_aload_n (q := 55) dX9_game_54 rfl rfl ?_
  refine go_iload (q := 57) dX9_game_55 rfl rfl ?_
  obtain ⟨g1, h⟩ := g_guard h
  refine go_put (w2 := wW (ss (ss (ss (ss s 20 x1) 21 x2) 22 x3) 25 x4)) (q := 60) dX9_game_57 fX9_71 (wg_23 _) (Nat.le_of_ble_eq_true rfl) (fun _ => isZ_nar g1) (fun _ => isZ_fit g1) (wp_23_5 _ _) rfl ?_
  refine go_aload_n (q := 61) dX9_game_60 rfl rfl ?_
  refine go_iload (q := 63) dX9_game_61 rfl rfl ?_
  obtain ⟨g2, h⟩ := g_guard h
  refine go_put (w2 := wW (ss (ss (ss (ss (ss s 20 x1) 21 x2) 22 x3) 25 x4) 26 x5)) (q := 66) dX9_game_63 fX9_75 (wg_23 _) (Nat.le_of_ble_eq_true rfl) (fun _ => isZ_nar g2) (fun _ => isZ_fit g2) (wp_23_6 _ _) rfl ?_
  refine go_aload_n (q := 67) dX9_game_66 rfl rfl ?_
  refine go_iconst (v := 0) (q := 68) dX9_game_67 (by decide) rfl ?_
  refine go_put (w2 := wW (ss (ss (ss (ss (ss (ss s 20 x1) 21 x2) 22 x3) 25 x4) 26 x5) 23 0)) (q := 71) dX9_game_68 fX9_78 (wg_23 _) (Nat.le_of_ble_eq_true rfl) (fun _ => rfl) (fun _ => rfl) (wp_23_3 _ _) rfl ?_
  refine go_aload_n (q := 72) dX9_game_71 rfl rfl ?_
  obtain ⟨r3, e4, h⟩ := g_bind h
  refine go_callV0 (q := 75) (as := []) (rest := []) (st2 := []) (w2 := wW r3) dX9_game_72 cX9_64 (t_X9_forgets (ss (ss (ss (ss (ss (ss s 20 x1) 21 x2) 22 x3) 25 x4) 26 x5) 23 0) _ e4) (wg_23 _) rfl rfl rfl (Nat.le_of_ble_eq_true rfl) (by decide) ⟨Nat.le_refl _, Nat.le_refl _⟩ rfl rfl ?_
  refine go_iconst (v := 1) (q := 76) dX9_game_75 (by decide) rfl ?_
  cases h
  exact go_iret dX9_game_76 rfl rfl (Nat.le_refl _) (Nat.le_refl _) ⟨rfl, rfl⟩
def f_X9_game (s : gS) (x1 : Int32) (x2 : Int32) (x3 : Int32) (x4 : Int32) (x5 : Int32) : Option (Int32 × gS) :=
  (f_X9_in x1 2 4).bind fun r1 =>
  if r1 = 0 then
    some (0, s)
  else
    (f_X9_in x2 2 4).bind fun r4 =>
    if r4 = 0 then
      some (0, s)
    else
      (f_X9_in x3 2 4).bind fun r7 =>
      if r7 = 0 then
        some (0, s)
      else
        if x3 ≤ x1 then
          f_X9_game_39 s x1 x2 x3 x4 x5
        else
          if x3 ≤ x2 then
            f_X9_game_39 s x1 x2 x3 x4 x5
          else
            some (0, s)
set_option maxHeartbeats 4000000 in
set_option maxRecDepth 100000 in
theorem b_X9_game (r : Int32 × gS) : ∀ (s : gS) (x1 : Int32) (x2 : Int32) (x3 : Int32) (x4 : Int32) (x5 : Int32) , f_X9_game s x1 x2 x3 x4 x5 = some r → Go gTr yX9_game cX9_game 6 (some .boolean) 2 0 0 (fun r9 w9 => r9 = some (.int r.1) ∧ w9 = wW r.2) 0 0 (wW s) 0 [some (.ref 23), some (.int x1), some (.int x2), some (.int x3), some (.int x4), some (.int x5)] [] := by
  intro s x1 x2 x3 x4 x5 h
  rw [f_X9_game] at h
  refine go_iload_n (q := 1) dX9_game_0 rfl rfl ?_
  refine go_iconst (v := 2) (q := 2) dX9_game_1 (by decide) rfl ?_
  refine go_iconst (v := 4) (q := 3) dX9_game_2 (by decide) rfl ?_
  obtain ⟨r1, e2, h⟩ := g_bind h
  refine go_callS0 (q := 6) (as := [.int x1, .int 2, .int 4]) (rest := []) (st2 := [.int r1]) (w2 := wW s) dX9_game_3 cX9_67 (t_X9_in _ x1 2 4 _ e2) rfl rfl (Nat.le_of_ble_eq_true rfl) (by decide) ⟨Nat.le_refl _, Nat.le_refl _⟩ rfl rfl ?_
  refine go_if_eq (tgt := 37) (q := 9) dX9_game_6 (by decide) rfl (fun c3 => ?_) (fun c3 => ?_)
  · replace h := g_pos c3 h
    refine go_iconst (v := 0) (q := 38) dX9_game_37 (by decide) rfl ?_
    cases h
    exact go_iret dX9_game_38 rfl rfl (Nat.le_refl _) (Nat.le_refl _) ⟨rfl, rfl⟩
  · replace h := g_neg c3 h
    refine go_iload_n (q := 10) dX9_game_9 rfl rfl ?_
    refine go_iconst (v := 2) (q := 11) dX9_game_10 (by decide) rfl ?_
    refine go_iconst (v := 4) (q := 12) dX9_game_11 (by decide) rfl ?_
    obtain ⟨r4, e5, h⟩ := g_bind h
    refine go_callS0 (q := 15) (as := [.int x2, .int 2, .int 4]) (rest := []) (st2 := [.int r4]) (w2 := wW s) dX9_game_12 cX9_67 (t_X9_in _ x2 2 4 _ e5) rfl rfl (Nat.le_of_ble_eq_true rfl) (by decide) ⟨Nat.le_refl _, Nat.le_refl _⟩ rfl rfl ?_
    refine go_if_eq (tgt := 37) (q := 18) dX9_game_15 (by decide) rfl (fun c6 => ?_) (fun c6 => ?_)
    · replace h := g_pos c6 h
      refine go_iconst (v := 0) (q := 38) dX9_game_37 (by decide) rfl ?_
      cases h
      exact go_iret dX9_game_38 rfl rfl (Nat.le_refl _) (Nat.le_refl _) ⟨rfl, rfl⟩
    · replace h := g_neg c6 h
      refine go_iload_n (q := 19) dX9_game_18 rfl rfl ?_
      refine go_iconst (v := 2) (q := 20) dX9_game_19 (by decide) rfl ?_
      refine go_iconst (v := 4) (q := 21) dX9_game_20 (by decide) rfl ?_
      obtain ⟨r7, e8, h⟩ := g_bind h
      refine go_callS0 (q := 24) (as := [.int x3, .int 2, .int 4]) (rest := []) (st2 := [.int r7]) (w2 := wW s) dX9_game_21 cX9_67 (t_X9_in _ x3 2 4 _ e8) rfl rfl (Nat.le_of_ble_eq_true rfl) (by decide) ⟨Nat.le_refl _, Nat.le_refl _⟩ rfl rfl ?_
      refine go_if_eq (tgt := 37) (q := 27) dX9_game_24 (by decide) rfl (fun c9 => ?_) (fun c9 => ?_)
      · replace h := g_pos c9 h
        refine go_iconst (v := 0) (q := 38) dX9_game_37 (by decide) rfl ?_
        cases h
        exact go_iret dX9_game_38 rfl rfl (Nat.le_refl _) (Nat.le_refl _) ⟨rfl, rfl⟩
      · replace h := g_neg c9 h
        refine go_iload_n (q := 28) dX9_game_27 rfl rfl ?_
        refine go_iload_n (q := 29) dX9_game_28 rfl rfl ?_
        refine go_icmp_le (tgt := 39) (q := 32) dX9_game_29 (by decide) rfl (fun c10 => ?_) (fun c10 => ?_)
        · replace h := g_pos c10 h
          refine go_ls (ls2 := [some (.ref 23), some (.int x1), some (.int x2), some (.int x3), some (.int x4), some (.int x5)]) ⟨rfl, rfl, rfl, rfl, rfl, rfl, trivial⟩ ?_
          exact b_X9_game_39 r s x1 x2 x3 x4 x5 h
        · replace h := g_neg c10 h
          refine go_iload_n (q := 33) dX9_game_32 rfl rfl ?_
          refine go_iload_n (q := 34) dX9_game_33 rfl rfl ?_
          refine go_icmp_le (tgt := 39) (q := 37) dX9_game_34 (by decide) rfl (fun c11 => ?_) (fun c11 => ?_)
          · replace h := g_pos c11 h
            refine go_ls (ls2 := [some (.ref 23), some (.int x1), some (.int x2), some (.int x3), some (.int x4), some (.int x5)]) ⟨rfl, rfl, rfl, rfl, rfl, rfl, trivial⟩ ?_
            exact b_X9_game_39 r s x1 x2 x3 x4 x5 h
          · replace h := g_neg c11 h
            refine go_iconst (v := 0) (q := 38) dX9_game_37 (by decide) rfl ?_
            cases h
            exact go_iret dX9_game_38 rfl rfl (Nat.le_refl _) (Nat.le_refl _) ⟨rfl, rfl⟩
theorem t_X9_game (s : gS) (x1 : Int32) (x2 : Int32) (x3 : Int32) (x4 : Int32) (x5 : Int32) (r : Int32 × gS) (h : f_X9_game s x1 x2 x3 x4 x5 = some r) : Cal 2 mX9_game [.ref 23, .int x1, .int x2, .int x3, .int x4, .int x5] (wW s) 0 0 (some (.int r.1)) (wW r.2) := Cal.of (by decide) (g_cats rfl) (Nat.le_of_ble_eq_true rfl) (b_X9_game r s x1 x2 x3 x4 x5 h)
def f_X9_starts_2 : Nat → gS → Int32 → Option gS
  | 0, _, _ => none
  | φ + 1, s, x1 =>
    if 16 ≤ x1 then
      some (ss (ss s 27 0) 28 3)
    else
      if inB x1 16 = true then
        f_X9_starts_2 φ (sa s 22 x1.toNatClampNeg 2) (x1 + 1)
      else none
set_option maxHeartbeats 4000000 in
set_option maxRecDepth 100000 in
theorem b_X9_starts_2 (r : gS) : ∀ (φ : Nat) (s : gS) (x1 : Int32) , f_X9_starts_2 φ s x1 = some r → Go gTr yX9_starts cX9_starts 2 none 1 0 0 (fun r9 w9 => r9 = none ∧ w9 = wW r) 0 0 (wW s) 2 [some (.ref 23), some (.int x1)] [] := by
  intro φ
  induction φ with
  | zero =>
    intro s x1 h
    exact absurd h (by intro h0; cases h0)
  | succ φ ih =>
    intro s x1 h
    rw [f_X9_starts_2] at h
    refine go_iload_n (q := 3) dX9_starts_2 rfl rfl ?_
    refine go_bipush (v := 16) (q := 5) dX9_starts_3 (by decide) rfl ?_
    refine go_icmp_ge (tgt := 21) (q := 8) dX9_starts_5 (by decide) rfl (fun c1 => ?_) (fun c1 => ?_)
    · replace h := g_pos c1 h
      refine go_aload_n (q := 22) dX9_starts_21 rfl rfl ?_
      refine go_iconst (v := 0) (q := 23) dX9_starts_22 (by decide) rfl ?_
      refine go_put (w2 := wW (ss s 27 0)) (q := 26) dX9_starts_23 fX9_81 (wg_23 _) (Nat.le_of_ble_eq_true rfl) (fun _ => rfl) (fun _ => rfl) (wp_23_10 _ _) rfl ?_
      refine go_aload_n (q := 27) dX9_starts_26 rfl rfl ?_
      refine go_iconst (v := 3) (q := 28) dX9_starts_27 (by decide) rfl ?_
      refine go_put (w2 := wW (ss (ss s 27 0) 28 3)) (q := 31) dX9_starts_28 fX9_84 (wg_23 _) (Nat.le_of_ble_eq_true rfl) (fun _ => rfl) (fun _ => rfl) (wp_23_11 _ _) rfl ?_
      cases h
      exact go_ret dX9_starts_31 rfl (Nat.le_refl _) (Nat.le_refl _) ⟨rfl, rfl⟩
    · replace h := g_neg c1 h
      refine go_aload_n (q := 9) dX9_starts_8 rfl rfl ?_
      refine go_get (v := .ref 26) (q := 12) dX9_starts_9 fX9_29 (wg_23 _) rfl rfl ?_
      refine go_iload_n (q := 13) dX9_starts_12 rfl rfl ?_
      refine go_iconst (v := 2) (q := 14) dX9_starts_13 (by decide) rfl ?_
      obtain ⟨g2, h⟩ := g_guard h
      refine go_iast (w2 := wW (sa s 22 x1.toNatClampNeg 2)) (q := 15) dX9_starts_14 (wg_26 _) (inB_in g2) (wa_26 _ _ _) rfl ?_
      refine go_iinc (v := x1 + 1) (ls2 := [some (.ref 23), some (.int (x1 + 1))]) (q := 18) dX9_starts_15 (by decide) rfl rfl rfl rfl ?_
      refine go_goto (tgt := 2) dX9_starts_18 (by decide) ?_
      refine go_ls (ls2 := [some (.ref 23), some (.int (x1 + 1))]) ⟨rfl, rfl, trivial⟩ ?_
      exact ih (sa s 22 x1.toNatClampNeg 2) (x1 + 1) h
def f_X9_starts (s : gS) : Option gS :=
  f_X9_starts_2 gφ s 0
set_option maxHeartbeats 4000000 in
set_option maxRecDepth 100000 in
theorem b_X9_starts (r : gS) : ∀ (s : gS) , f_X9_starts s = some r → Go gTr yX9_starts cX9_starts 2 none 1 0 0 (fun r9 w9 => r9 = none ∧ w9 = wW r) 0 0 (wW s) 0 [some (.ref 23), none] [] := by
  intro s h
  rw [f_X9_starts] at h
  refine go_iconst (v := 0) (q := 1) dX9_starts_0 (by decide) rfl ?_
  refine go_istore_n (ls2 := [some (.ref 23), some (.int 0)]) (q := 2) dX9_starts_1 (by decide) rfl rfl ?_
  refine go_ls (ls2 := [some (.ref 23), some (.int 0)]) ⟨rfl, rfl, trivial⟩ ?_
  exact b_X9_starts_2 r gφ s 0 h
theorem t_X9_starts (s : gS) (r : gS) (h : f_X9_starts s = some r) : Cal 1 mX9_starts [.ref 23] (wW s) 0 0 none (wW r) := Cal.of (by decide) (g_cats rfl) (Nat.le_of_ble_eq_true rfl) (b_X9_starts r s h)
def f_X9_stonesFrom_23 : Nat → gS → Int32 → Int32 → Int32 → Int32 → Int32 → Int32 → Option Int32
  | 0, _, _, _, _, _, _, _ => none
  | φ + 1, s, x2, x3, x4, x5, x6, x7 =>
    (f_X9_in x6 0 ((s.1 20) - 1)).bind fun r1 =>
    if r1 = 0 then
      some x5
    else
      (f_X9_in x7 0 ((s.1 21) - 1)).bind fun r4 =>
      if r4 = 0 then
        some x5
      else
        if inB (((s.1 20) * x7) + x6) 16 = true then
          if (s.2 22 (((s.1 20) * x7) + x6).toNatClampNeg) = x4 then
            f_X9_stonesFrom_23 φ s x2 x3 x4 (x5 + 1) (x6 + x2) (x7 + x3)
          else
            some x5
        else none
set_option maxHeartbeats 4000000 in
set_option maxRecDepth 100000 in
theorem b_X9_stonesFrom_23 (s : gS) (r : Int32) : ∀ (φ : Nat) (x2 : Int32) (x3 : Int32) (x4 : Int32) (x5 : Int32) (x6 : Int32) (x7 : Int32) , f_X9_stonesFrom_23 φ s x2 x3 x4 x5 x6 x7 = some r → Go gTr yX9_stonesFrom cX9_stonesFrom 8 (some .int) 2 0 0 (fun r9 w9 => r9 = some (.int r) ∧ w9 = wW s) 0 0 (wW s) 23 [some (.ref 23), none, some (.int x2), some (.int x3), some (.int x4), some (.int x5), some (.int x6), some (.int x7)] [] := by
  intro φ
  induction φ with
  | zero =>
    intro x2 x3 x4 x5 x6 x7 h
    exact absurd h (by intro h0; cases h0)
  | succ φ ih =>
    intro x2 x3 x4 x5 x6 x7 h
    rw [f_X9_stonesFrom_23] at h
    refine go_iload (q := 25) dX9_stonesFrom_23 rfl rfl ?_
    refine go_iconst (v := 0) (q := 26) dX9_stonesFrom_25 (by decide) rfl ?_
    refine go_aload_n (q := 27) dX9_stonesFrom_26 rfl rfl ?_
    refine go_get (v := .int (s.1 20)) (q := 30) dX9_stonesFrom_27 fX9_7 (wg_23 _) rfl rfl ?_
    refine go_iconst (v := 1) (q := 31) dX9_stonesFrom_30 (by decide) rfl ?_
    refine go_isub (q := 32) dX9_stonesFrom_31 rfl ?_
    obtain ⟨r1, e2, h⟩ := g_bind h
    refine go_callS0 (q := 35) (as := [.int x6, .int 0, .int ((s.1 20) - 1)]) (rest := []) (st2 := [.int r1]) (w2 := wW s) dX9_stonesFrom_32 cX9_67 (t_X9_in _ x6 0 ((s.1 20) - 1) _ e2) rfl rfl (Nat.le_of_ble_eq_true rfl) (by decide) ⟨Nat.le_refl _, Nat.le_refl _⟩ rfl rfl ?_
    refine go_if_eq (tgt := 94) (q := 38) dX9_stonesFrom_35 (by decide) rfl (fun c3 => ?_) (fun c3 => ?_)
    · replace h := g_pos c3 h
      refine go_iload (q := 96) dX9_stonesFrom_94 rfl rfl ?_
      cases h
      exact go_iret dX9_stonesFrom_96 rfl rfl (Nat.le_refl _) (Nat.le_refl _) ⟨rfl, rfl⟩
    · replace h := g_neg c3 h
      refine go_iload (q := 40) dX9_stonesFrom_38 rfl rfl ?_
      refine go_iconst (v := 0) (q := 41) dX9_stonesFrom_40 (by decide) rfl ?_
      refine go_aload_n (q := 42) dX9_stonesFrom_41 rfl rfl ?_
      refine go_get (v := .int (s.1 21)) (q := 45) dX9_stonesFrom_42 fX9_13 (wg_23 _) rfl rfl ?_
      refine go_iconst (v := 1) (q := 46) dX9_stonesFrom_45 (by decide) rfl ?_
      refine go_isub (q := 47) dX9_stonesFrom_46 rfl ?_
      obtain ⟨r4, e5, h⟩ := g_bind h
      refine go_callS0 (q := 50) (as := [.int x7, .int 0, .int ((s.1 21) - 1)]) (rest := []) (st2 := [.int r4]) (w2 := wW s) dX9_stonesFrom_47 cX9_67 (t_X9_in _ x7 0 ((s.1 21) - 1) _ e5) rfl rfl (Nat.le_of_ble_eq_true rfl) (by decide) ⟨Nat.le_refl _, Nat.le_refl _⟩ rfl rfl ?_
      refine go_if_eq (tgt := 94) (q := 53) dX9_stonesFrom_50 (by decide) rfl (fun c6 => ?_) (fun c6 => ?_)
      · replace h := g_pos c6 h
        refine go_iload (q := 96) dX9_stonesFrom_94 rfl rfl ?_
        cases h
        exact go_iret dX9_stonesFrom_96 rfl rfl (Nat.le_refl _) (Nat.le_refl _) ⟨rfl, rfl⟩
      · replace h := g_neg c6 h
        refine go_aload_n (q := 54) dX9_stonesFrom_53 rfl rfl ?_
        refine go_get (v := .ref 26) (q := 57) dX9_stonesFrom_54 fX9_29 (wg_23 _) rfl rfl ?_
        refine go_aload_n (q := 58) dX9_stonesFrom_57 rfl rfl ?_
        refine go_get (v := .int (s.1 20)) (q := 61) dX9_stonesFrom_58 fX9_7 (wg_23 _) rfl rfl ?_
        refine go_iload (q := 63) dX9_stonesFrom_61 rfl rfl ?_
        refine go_imul (q := 64) dX9_stonesFrom_63 rfl ?_
        refine go_iload (q := 66) dX9_stonesFrom_64 rfl rfl ?_
        refine go_iadd (q := 67) dX9_stonesFrom_66 rfl ?_
        obtain ⟨g7, h⟩ := g_guard h
        refine go_iald (f := s.2 22) (q := 68) dX9_stonesFrom_67 (wg_26 _) (inB_in g7) rfl ?_
        refine go_iload (q := 70) dX9_stonesFrom_68 rfl rfl ?_
        refine go_icmp_ne (tgt := 94) (q := 73) dX9_stonesFrom_70 (by decide) rfl (fun c8 => ?_) (fun c8 => ?_)
        · replace h := g_neg c8 h
          refine go_iload (q := 96) dX9_stonesFrom_94 rfl rfl ?_
          cases h
          exact go_iret dX9_stonesFrom_96 rfl rfl (Nat.le_refl _) (Nat.le_refl _) ⟨rfl, rfl⟩
        · replace h := g_pos c8 h
          refine go_iload (q := 75) dX9_stonesFrom_73 rfl rfl ?_
          refine go_iconst (v := 1) (q := 76) dX9_stonesFrom_75 (by decide) rfl ?_
          refine go_iadd (q := 77) dX9_stonesFrom_76 rfl ?_
          refine go_istore (ls2 := [some (.ref 23), none, some (.int x2), some (.int x3), some (.int x4), some (.int (x5 + 1)), some (.int x6), some (.int x7)]) (q := 79) dX9_stonesFrom_77 (by decide) rfl rfl ?_
          refine go_iload (q := 81) dX9_stonesFrom_79 rfl rfl ?_
          refine go_iload_n (q := 82) dX9_stonesFrom_81 rfl rfl ?_
          refine go_iadd (q := 83) dX9_stonesFrom_82 rfl ?_
          refine go_istore (ls2 := [some (.ref 23), none, some (.int x2), some (.int x3), some (.int x4), some (.int (x5 + 1)), some (.int (x6 + x2)), some (.int x7)]) (q := 85) dX9_stonesFrom_83 (by decide) rfl rfl ?_
          refine go_iload (q := 87) dX9_stonesFrom_85 rfl rfl ?_
          refine go_iload_n (q := 88) dX9_stonesFrom_87 rfl rfl ?_
          refine go_iadd (q := 89) dX9_stonesFrom_88 rfl ?_
          refine go_istore (ls2 := [some (.ref 23), none, some (.int x2), some (.int x3), some (.int x4), some (.int (x5 + 1)), some (.int (x6 + x2)), some (.int (x7 + x3))]) (q := 91) dX9_stonesFrom_89 (by decide) rfl rfl ?_
          refine go_goto (tgt := 23) dX9_stonesFrom_91 (by decide) ?_
          refine go_ls (ls2 := [some (.ref 23), none, some (.int x2), some (.int x3), some (.int x4), some (.int (x5 + 1)), some (.int (x6 + x2)), some (.int (x7 + x3))]) ⟨rfl, rfl, rfl, rfl, rfl, rfl, rfl, trivial⟩ ?_
          exact ih x2 x3 x4 (x5 + 1) (x6 + x2) (x7 + x3) h
def f_X9_stonesFrom (s : gS) (x1 : Int32) (x2 : Int32) (x3 : Int32) (x4 : Int32) : Option Int32 :=
  if nz (s.1 20) = true then
    if nz (s.1 20) = true then
      f_X9_stonesFrom_23 gφ s x2 x3 x4 0 ((x1 - x1 / (s.1 20) * (s.1 20)) + x2) ((x1 / (s.1 20)) + x3)
    else none
  else none
set_option maxHeartbeats 4000000 in
set_option maxRecDepth 100000 in
theorem b_X9_stonesFrom (s : gS) (r : Int32) : ∀ (x1 : Int32) (x2 : Int32) (x3 : Int32) (x4 : Int32) , f_X9_stonesFrom s x1 x2 x3 x4 = some r → Go gTr yX9_stonesFrom cX9_stonesFrom 8 (some .int) 2 0 0 (fun r9 w9 => r9 = some (.int r) ∧ w9 = wW s) 0 0 (wW s) 0 [some (.ref 23), some (.int x1), some (.int x2), some (.int x3), some (.int x4), none, none, none] [] := by
  intro x1 x2 x3 x4 h
  rw [f_X9_stonesFrom] at h
  refine go_iconst (v := 0) (q := 1) dX9_stonesFrom_0 (by decide) rfl ?_
  refine go_istore (ls2 := [some (.ref 23), some (.int x1), some (.int x2), some (.int x3), some (.int x4), some (.int 0), none, none]) (q := 3) dX9_stonesFrom_1 (by decide) rfl rfl ?_
  refine go_iload_n (q := 4) dX9_stonesFrom_3 rfl rfl ?_
  refine go_aload_n (q := 5) dX9_stonesFrom_4 rfl rfl ?_
  refine go_get (v := .int (s.1 20)) (q := 8) dX9_stonesFrom_5 fX9_7 (wg_23 _) rfl rfl ?_
  obtain ⟨g1, h⟩ := g_guard h
  refine go_irem (q := 9) dX9_stonesFrom_8 (nz_ne g1) rfl ?_
  refine go_iload_n (q := 10) dX9_stonesFrom_9 rfl rfl ?_
  refine go_iadd (q := 11) dX9_stonesFrom_10 rfl ?_
  refine go_istore (ls2 := [some (.ref 23), some (.int x1), some (.int x2), some (.int x3), some (.int x4), some (.int 0), some (.int ((x1 - x1 / (s.1 20) * (s.1 20)) + x2)), none]) (q := 13) dX9_stonesFrom_11 (by decide) rfl rfl ?_
  refine go_iload_n (q := 14) dX9_stonesFrom_13 rfl rfl ?_
  refine go_aload_n (q := 15) dX9_stonesFrom_14 rfl rfl ?_
  refine go_get (v := .int (s.1 20)) (q := 18) dX9_stonesFrom_15 fX9_7 (wg_23 _) rfl rfl ?_
  obtain ⟨g2, h⟩ := g_guard h
  refine go_idiv (q := 19) dX9_stonesFrom_18 (nz_ne g2) rfl ?_
  refine go_iload_n (q := 20) dX9_stonesFrom_19 rfl rfl ?_
  refine go_iadd (q := 21) dX9_stonesFrom_20 rfl ?_
  refine go_istore (ls2 := [some (.ref 23), some (.int x1), some (.int x2), some (.int x3), some (.int x4), some (.int 0), some (.int ((x1 - x1 / (s.1 20) * (s.1 20)) + x2)), some (.int ((x1 / (s.1 20)) + x3))]) (q := 23) dX9_stonesFrom_21 (by decide) rfl rfl ?_
  refine go_ls (ls2 := [some (.ref 23), none, some (.int x2), some (.int x3), some (.int x4), some (.int 0), some (.int ((x1 - x1 / (s.1 20) * (s.1 20)) + x2)), some (.int ((x1 / (s.1 20)) + x3))]) ⟨rfl, rfl, rfl, rfl, rfl, rfl, rfl, trivial⟩ ?_
  exact b_X9_stonesFrom_23 s r gφ x2 x3 x4 0 ((x1 - x1 / (s.1 20) * (s.1 20)) + x2) ((x1 / (s.1 20)) + x3) h
theorem t_X9_stonesFrom (s : gS) (x1 : Int32) (x2 : Int32) (x3 : Int32) (x4 : Int32) (r : Int32) (h : f_X9_stonesFrom s x1 x2 x3 x4 = some r) : Cal 2 mX9_stonesFrom [.ref 23, .int x1, .int x2, .int x3, .int x4] (wW s) 0 0 (some (.int r)) (wW s) := Cal.of (by decide) (g_cats rfl) (Nat.le_of_ble_eq_true rfl) (b_X9_stonesFrom s r x1 x2 x3 x4 h)
def f_X9_isLine (s : gS) (x1 : Int32) (x2 : Int32) (x3 : Int32) (x4 : Int32) : Option Int32 :=
  (f_X9_stonesFrom s x1 x2 x3 x4).bind fun r1 =>
  (f_X9_stonesFrom s x1 (-x2) (-x3) x4).bind fun r3 =>
  if ((1 + r1) + r3) < (s.1 22) then
    some 0
  else
    some 1
set_option maxHeartbeats 4000000 in
set_option maxRecDepth 100000 in
theorem b_X9_isLine (s : gS) (r : Int32) : ∀ (x1 : Int32) (x2 : Int32) (x3 : Int32) (x4 : Int32) , f_X9_isLine s x1 x2 x3 x4 = some r → Go gTr yX9_isLine cX9_isLine 5 (some .boolean) 3 0 0 (fun r9 w9 => r9 = some (.int r) ∧ w9 = wW s) 0 0 (wW s) 0 [some (.ref 23), some (.int x1), some (.int x2), some (.int x3), some (.int x4)] [] := by
  intro x1 x2 x3 x4 h
  rw [f_X9_isLine] at h
  refine go_iconst (v := 1) (q := 1) dX9_isLine_0 (by decide) rfl ?_
  refine go_aload_n (q := 2) dX9_isLine_1 rfl rfl ?_
  refine go_iload_n (q := 3) dX9_isLine_2 rfl rfl ?_
  refine go_iload_n (q := 4) dX9_isLine_3 rfl rfl ?_
  refine go_iload_n (q := 5) dX9_isLine_4 rfl rfl ?_
  refine go_iload (q := 7) dX9_isLine_5 rfl rfl ?_
  obtain ⟨r1, e2, h⟩ := g_bind h
  refine go_callV0 (q := 10) (as := [.int x1, .int x2, .int x3, .int x4]) (rest := [.int 1]) (st2 := [.int r1, .int 1]) (w2 := wW s) dX9_isLine_7 cX9_87 (t_X9_stonesFrom s x1 x2 x3 x4 _ e2) (wg_23 _) rfl rfl rfl (Nat.le_of_ble_eq_true rfl) (by decide) ⟨Nat.le_refl _, Nat.le_refl _⟩ rfl rfl ?_
  refine go_iadd (q := 11) dX9_isLine_10 rfl ?_
  refine go_aload_n (q := 12) dX9_isLine_11 rfl rfl ?_
  refine go_iload_n (q := 13) dX9_isLine_12 rfl rfl ?_
  refine go_iload_n (q := 14) dX9_isLine_13 rfl rfl ?_
  refine go_ineg (q := 15) dX9_isLine_14 rfl ?_
  refine go_iload_n (q := 16) dX9_isLine_15 rfl rfl ?_
  refine go_ineg (q := 17) dX9_isLine_16 rfl ?_
  refine go_iload (q := 19) dX9_isLine_17 rfl rfl ?_
  obtain ⟨r3, e4, h⟩ := g_bind h
  refine go_callV0 (q := 22) (as := [.int x1, .int (-x2), .int (-x3), .int x4]) (rest := [.int (1 + r1)]) (st2 := [.int r3, .int (1 + r1)]) (w2 := wW s) dX9_isLine_19 cX9_87 (t_X9_stonesFrom s x1 (-x2) (-x3) x4 _ e4) (wg_23 _) rfl rfl rfl (Nat.le_of_ble_eq_true rfl) (by decide) ⟨Nat.le_refl _, Nat.le_refl _⟩ rfl rfl ?_
  refine go_iadd (q := 23) dX9_isLine_22 rfl ?_
  refine go_aload_n (q := 24) dX9_isLine_23 rfl rfl ?_
  refine go_get (v := .int (s.1 22)) (q := 27) dX9_isLine_24 fX9_16 (wg_23 _) rfl rfl ?_
  refine go_icmp_lt (tgt := 34) (q := 30) dX9_isLine_27 (by decide) rfl (fun c5 => ?_) (fun c5 => ?_)
  · replace h := g_pos c5 h
    refine go_iconst (v := 0) (q := 35) dX9_isLine_34 (by decide) rfl ?_
    cases h
    exact go_iret dX9_isLine_35 rfl rfl (Nat.le_refl _) (Nat.le_refl _) ⟨rfl, rfl⟩
  · replace h := g_neg c5 h
    refine go_iconst (v := 1) (q := 31) dX9_isLine_30 (by decide) rfl ?_
    refine go_goto (tgt := 35) dX9_isLine_31 (by decide) ?_
    cases h
    exact go_iret dX9_isLine_35 rfl rfl (Nat.le_refl _) (Nat.le_refl _) ⟨rfl, rfl⟩
theorem t_X9_isLine (s : gS) (x1 : Int32) (x2 : Int32) (x3 : Int32) (x4 : Int32) (r : Int32) (h : f_X9_isLine s x1 x2 x3 x4 = some r) : Cal 3 mX9_isLine [.ref 23, .int x1, .int x2, .int x3, .int x4] (wW s) 0 0 (some (.int r)) (wW s) := Cal.of (by decide) (g_cats rfl) (Nat.le_of_ble_eq_true rfl) (b_X9_isLine s r x1 x2 x3 x4 h)
def f_X9_makesRow (s : gS) (x1 : Int32) (x2 : Int32) : Option Int32 :=
  (f_X9_isLine s x1 1 0 x2).bind fun r1 =>
  if r1 = 0 then
    (f_X9_isLine s x1 0 1 x2).bind fun r4 =>
    if r4 = 0 then
      (f_X9_isLine s x1 1 1 x2).bind fun r7 =>
      if r7 = 0 then
        (f_X9_isLine s x1 1 (-1 : Int32) x2).bind fun r10 =>
        if r10 = 0 then
          some 0
        else
          some 1
      else
        some 1
    else
      some 1
  else
    some 1
set_option maxHeartbeats 4000000 in
set_option maxRecDepth 100000 in
theorem b_X9_makesRow (s : gS) (r : Int32) : ∀ (x1 : Int32) (x2 : Int32) , f_X9_makesRow s x1 x2 = some r → Go gTr yX9_makesRow cX9_makesRow 3 (some .boolean) 4 0 0 (fun r9 w9 => r9 = some (.int r) ∧ w9 = wW s) 0 0 (wW s) 0 [some (.ref 23), some (.int x1), some (.int x2)] [] := by
  intro x1 x2 h
  rw [f_X9_makesRow] at h
  refine go_aload_n (q := 1) dX9_makesRow_0 rfl rfl ?_
  refine go_iload_n (q := 2) dX9_makesRow_1 rfl rfl ?_
  refine go_iconst (v := 1) (q := 3) dX9_makesRow_2 (by decide) rfl ?_
  refine go_iconst (v := 0) (q := 4) dX9_makesRow_3 (by decide) rfl ?_
  refine go_iload_n (q := 5) dX9_makesRow_4 rfl rfl ?_
  obtain ⟨r1, e2, h⟩ := g_bind h
  refine go_callV0 (q := 8) (as := [.int x1, .int 1, .int 0, .int x2]) (rest := []) (st2 := [.int r1]) (w2 := wW s) dX9_makesRow_5 cX9_91 (t_X9_isLine s x1 1 0 x2 _ e2) (wg_23 _) rfl rfl rfl (Nat.le_of_ble_eq_true rfl) (by decide) ⟨Nat.le_refl _, Nat.le_refl _⟩ rfl rfl ?_
  refine go_if_ne (tgt := 44) (q := 11) dX9_makesRow_8 (by decide) rfl (fun c3 => ?_) (fun c3 => ?_)
  · replace h := g_neg c3 h
    refine go_iconst (v := 1) (q := 45) dX9_makesRow_44 (by decide) rfl ?_
    refine go_goto (tgt := 49) dX9_makesRow_45 (by decide) ?_
    cases h
    exact go_iret dX9_makesRow_49 rfl rfl (Nat.le_refl _) (Nat.le_refl _) ⟨rfl, rfl⟩
  · replace h := g_pos c3 h
    refine go_aload_n (q := 12) dX9_makesRow_11 rfl rfl ?_
    refine go_iload_n (q := 13) dX9_makesRow_12 rfl rfl ?_
    refine go_iconst (v := 0) (q := 14) dX9_makesRow_13 (by decide) rfl ?_
    refine go_iconst (v := 1) (q := 15) dX9_makesRow_14 (by decide) rfl ?_
    refine go_iload_n (q := 16) dX9_makesRow_15 rfl rfl ?_
    obtain ⟨r4, e5, h⟩ := g_bind h
    refine go_callV0 (q := 19) (as := [.int x1, .int 0, .int 1, .int x2]) (rest := []) (st2 := [.int r4]) (w2 := wW s) dX9_makesRow_16 cX9_91 (t_X9_isLine s x1 0 1 x2 _ e5) (wg_23 _) rfl rfl rfl (Nat.le_of_ble_eq_true rfl) (by decide) ⟨Nat.le_refl _, Nat.le_refl _⟩ rfl rfl ?_
    refine go_if_ne (tgt := 44) (q := 22) dX9_makesRow_19 (by decide) rfl (fun c6 => ?_) (fun c6 => ?_)
    · replace h := g_neg c6 h
      refine go_iconst (v := 1) (q := 45) dX9_makesRow_44 (by decide) rfl ?_
      refine go_goto (tgt := 49) dX9_makesRow_45 (by decide) ?_
      cases h
      exact go_iret dX9_makesRow_49 rfl rfl (Nat.le_refl _) (Nat.le_refl _) ⟨rfl, rfl⟩
    · replace h := g_pos c6 h
      refine go_aload_n (q := 23) dX9_makesRow_22 rfl rfl ?_
      refine go_iload_n (q := 24) dX9_makesRow_23 rfl rfl ?_
      refine go_iconst (v := 1) (q := 25) dX9_makesRow_24 (by decide) rfl ?_
      refine go_iconst (v := 1) (q := 26) dX9_makesRow_25 (by decide) rfl ?_
      refine go_iload_n (q := 27) dX9_makesRow_26 rfl rfl ?_
      obtain ⟨r7, e8, h⟩ := g_bind h
      refine go_callV0 (q := 30) (as := [.int x1, .int 1, .int 1, .int x2]) (rest := []) (st2 := [.int r7]) (w2 := wW s) dX9_makesRow_27 cX9_91 (t_X9_isLine s x1 1 1 x2 _ e8) (wg_23 _) rfl rfl rfl (Nat.le_of_ble_eq_true rfl) (by decide) ⟨Nat.le_refl _, Nat.le_refl _⟩ rfl rfl ?_
      refine go_if_ne (tgt := 44) (q := 33) dX9_makesRow_30 (by decide) rfl (fun c9 => ?_) (fun c9 => ?_)
      · replace h := g_neg c9 h
        refine go_iconst (v := 1) (q := 45) dX9_makesRow_44 (by decide) rfl ?_
        refine go_goto (tgt := 49) dX9_makesRow_45 (by decide) ?_
        cases h
        exact go_iret dX9_makesRow_49 rfl rfl (Nat.le_refl _) (Nat.le_refl _) ⟨rfl, rfl⟩
      · replace h := g_pos c9 h
        refine go_aload_n (q := 34) dX9_makesRow_33 rfl rfl ?_
        refine go_iload_n (q := 35) dX9_makesRow_34 rfl rfl ?_
        refine go_iconst (v := 1) (q := 36) dX9_makesRow_35 (by decide) rfl ?_
        refine go_iconst (v := (-1 : Int32)) (q := 37) dX9_makesRow_36 (by decide) rfl ?_
        refine go_iload_n (q := 38) dX9_makesRow_37 rfl rfl ?_
        obtain ⟨r10, e11, h⟩ := g_bind h
        refine go_callV0 (q := 41) (as := [.int x1, .int 1, .int (-1 : Int32), .int x2]) (rest := []) (st2 := [.int r10]) (w2 := wW s) dX9_makesRow_38 cX9_91 (t_X9_isLine s x1 1 (-1 : Int32) x2 _ e11) (wg_23 _) rfl rfl rfl (Nat.le_of_ble_eq_true rfl) (by decide) ⟨Nat.le_refl _, Nat.le_refl _⟩ rfl rfl ?_
        refine go_if_eq (tgt := 48) (q := 44) dX9_makesRow_41 (by decide) rfl (fun c12 => ?_) (fun c12 => ?_)
        · replace h := g_pos c12 h
          refine go_iconst (v := 0) (q := 49) dX9_makesRow_48 (by decide) rfl ?_
          cases h
          exact go_iret dX9_makesRow_49 rfl rfl (Nat.le_refl _) (Nat.le_refl _) ⟨rfl, rfl⟩
        · replace h := g_neg c12 h
          refine go_iconst (v := 1) (q := 45) dX9_makesRow_44 (by decide) rfl ?_
          refine go_goto (tgt := 49) dX9_makesRow_45 (by decide) ?_
          cases h
          exact go_iret dX9_makesRow_49 rfl rfl (Nat.le_refl _) (Nat.le_refl _) ⟨rfl, rfl⟩
theorem t_X9_makesRow (s : gS) (x1 : Int32) (x2 : Int32) (r : Int32) (h : f_X9_makesRow s x1 x2 = some r) : Cal 4 mX9_makesRow [.ref 23, .int x1, .int x2] (wW s) 0 0 (some (.int r)) (wW s) := Cal.of (by decide) (g_cats rfl) (Nat.le_of_ble_eq_true rfl) (b_X9_makesRow s r x1 x2 h)
def f_X9_sets_48 (s : gS) (t1 : Int32) : Option gS :=
  some (ss s 28 t1)
set_option maxHeartbeats 4000000 in
set_option maxRecDepth 100000 in
theorem b_X9_sets_48 (r : gS) : ∀ (s : gS) (t1 : Int32) , f_X9_sets_48 s t1 = some r → Go gTr yX9_sets cX9_sets 3 none 5 0 0 (fun r9 w9 => r9 = none ∧ w9 = wW r) 0 0 (wW s) 48 [none, none, none] [.int t1, .ref 23] := by
  intro s t1 h
  rw [f_X9_sets_48] at h
  refine go_put (w2 := wW (ss s 28 t1)) (q := 51) dX9_sets_48 fX9_84 (wg_23 _) (Nat.le_of_ble_eq_true rfl) (fun _ => rfl) (fun _ => rfl) (wp_23_11 _ _) rfl ?_
  refine go_goto (tgt := 75) dX9_sets_51 (by decide) ?_
  cases h
  exact go_ret dX9_sets_75 rfl (Nat.le_refl _) (Nat.le_refl _) ⟨rfl, rfl⟩
def f_X9_sets (s : gS) (x1 : Int32) : Option gS :=
  if inB x1 16 = true then
    (f_X9_makesRow (ss (sa s 22 x1.toNatClampNeg ((s.1 27) - (s.1 27) / 2 * 2)) 27 ((s.1 27) + 1)) x1 ((s.1 27) - (s.1 27) / 2 * 2)).bind fun r2 =>
    if r2 = 0 then
      if ((s.1 27) + 1) = ((s.1 20) * (s.1 21)) then
        some (ss (ss (sa s 22 x1.toNatClampNeg ((s.1 27) - (s.1 27) / 2 * 2)) 27 ((s.1 27) + 1)) 28 2)
      else
        some (ss (sa s 22 x1.toNatClampNeg ((s.1 27) - (s.1 27) / 2 * 2)) 27 ((s.1 27) + 1))
    else
      if (s.1 26) = 0 then
        f_X9_sets_48 (ss (sa s 22 x1.toNatClampNeg ((s.1 27) - (s.1 27) / 2 * 2)) 27 ((s.1 27) + 1)) ((s.1 27) - (s.1 27) / 2 * 2)
      else
        f_X9_sets_48 (ss (sa s 22 x1.toNatClampNeg ((s.1 27) - (s.1 27) / 2 * 2)) 27 ((s.1 27) + 1)) (1 - ((s.1 27) - (s.1 27) / 2 * 2))
  else none
set_option maxHeartbeats 4000000 in
set_option maxRecDepth 100000 in
theorem b_X9_sets (r : gS) : ∀ (s : gS) (x1 : Int32) , f_X9_sets s x1 = some r → Go gTr yX9_sets cX9_sets 3 none 5 0 0 (fun r9 w9 => r9 = none ∧ w9 = wW r) 0 0 (wW s) 0 [some (.ref 23), some (.int x1), none] [] := by
  intro s x1 h
  rw [f_X9_sets] at h
  refine go_aload_n (q := 1) dX9_sets_0 rfl rfl ?_
  refine go_get (v := .int (s.1 27)) (q := 4) dX9_sets_1 fX9_81 (wg_23 _) rfl rfl ?_
  refine go_iconst (v := 2) (q := 5) dX9_sets_4 (by decide) rfl ?_
  refine go_irem (q := 6) dX9_sets_5 (by decide) rfl ?_
  refine go_istore_n (ls2 := [some (.ref 23), some (.int x1), some (.int ((s.1 27) - (s.1 27) / 2 * 2))]) (q := 7) dX9_sets_6 (by decide) rfl rfl ?_
  refine go_aload_n (q := 8) dX9_sets_7 rfl rfl ?_
  refine go_get (v := .ref 26) (q := 11) dX9_sets_8 fX9_29 (wg_23 _) rfl rfl ?_
  refine go_iload_n (q := 12) dX9_sets_11 rfl rfl ?_
  refine go_iload_n (q := 13) dX9_sets_12 rfl rfl ?_
  obtain ⟨g1, h⟩ := g_guard h
  refine go_iast (w2 := wW (sa s 22 x1.toNatClampNeg ((s.1 27) - (s.1 27) / 2 * 2))) (q := 14) dX9_sets_13 (wg_26 _) (inB_in g1) (wa_26 _ _ _) rfl ?_
  refine go_aload_n (q := 15) dX9_sets_14 rfl rfl ?_
  refine go_aload_n (q := 16) dX9_sets_15 rfl rfl ?_
  refine go_get (v := .int (s.1 27)) (q := 19) dX9_sets_16 fX9_81 (wg_23 _) rfl rfl ?_
  refine go_iconst (v := 1) (q := 20) dX9_sets_19 (by decide) rfl ?_
  refine go_iadd (q := 21) dX9_sets_20 rfl ?_
  refine go_put (w2 := wW (ss (sa s 22 x1.toNatClampNeg ((s.1 27) - (s.1 27) / 2 * 2)) 27 ((s.1 27) + 1))) (q := 24) dX9_sets_21 fX9_81 (wg_23 _) (Nat.le_of_ble_eq_true rfl) (fun _ => rfl) (fun _ => rfl) (wp_23_10 _ _) rfl ?_
  refine go_aload_n (q := 25) dX9_sets_24 rfl rfl ?_
  refine go_iload_n (q := 26) dX9_sets_25 rfl rfl ?_
  refine go_iload_n (q := 27) dX9_sets_26 rfl rfl ?_
  obtain ⟨r2, e3, h⟩ := g_bind h
  refine go_callV0 (q := 30) (as := [.int x1, .int ((s.1 27) - (s.1 27) / 2 * 2)]) (rest := []) (st2 := [.int r2]) (w2 := wW (ss (sa s 22 x1.toNatClampNeg ((s.1 27) - (s.1 27) / 2 * 2)) 27 ((s.1 27) + 1))) dX9_sets_27 cX9_95 (t_X9_makesRow (ss (sa s 22 x1.toNatClampNeg ((s.1 27) - (s.1 27) / 2 * 2)) 27 ((s.1 27) + 1)) x1 ((s.1 27) - (s.1 27) / 2 * 2) _ e3) (wg_23 _) rfl rfl rfl (Nat.le_of_ble_eq_true rfl) (by decide) ⟨Nat.le_refl _, Nat.le_refl _⟩ rfl rfl ?_
  refine go_if_eq (tgt := 54) (q := 33) dX9_sets_30 (by decide) rfl (fun c4 => ?_) (fun c4 => ?_)
  · replace h := g_pos c4 h
    refine go_aload_n (q := 55) dX9_sets_54 rfl rfl ?_
    refine go_get (v := .int ((s.1 27) + 1)) (q := 58) dX9_sets_55 fX9_81 (wg_23 _) rfl rfl ?_
    refine go_aload_n (q := 59) dX9_sets_58 rfl rfl ?_
    refine go_get (v := .int (s.1 20)) (q := 62) dX9_sets_59 fX9_7 (wg_23 _) rfl rfl ?_
    refine go_aload_n (q := 63) dX9_sets_62 rfl rfl ?_
    refine go_get (v := .int (s.1 21)) (q := 66) dX9_sets_63 fX9_13 (wg_23 _) rfl rfl ?_
    refine go_imul (q := 67) dX9_sets_66 rfl ?_
    refine go_icmp_ne (tgt := 75) (q := 70) dX9_sets_67 (by decide) rfl (fun c5 => ?_) (fun c5 => ?_)
    · replace h := g_neg c5 h
      cases h
      exact go_ret dX9_sets_75 rfl (Nat.le_refl _) (Nat.le_refl _) ⟨rfl, rfl⟩
    · replace h := g_pos c5 h
      refine go_aload_n (q := 71) dX9_sets_70 rfl rfl ?_
      refine go_iconst (v := 2) (q := 72) dX9_sets_71 (by decide) rfl ?_
      refine go_put (w2 := wW (ss (ss (sa s 22 x1.toNatClampNeg ((s.1 27) - (s.1 27) / 2 * 2)) 27 ((s.1 27) + 1)) 28 2)) (q := 75) dX9_sets_72 fX9_84 (wg_23 _) (Nat.le_of_ble_eq_true rfl) (fun _ => rfl) (fun _ => rfl) (wp_23_11 _ _) rfl ?_
      cases h
      exact go_ret dX9_sets_75 rfl (Nat.le_refl _) (Nat.le_refl _) ⟨rfl, rfl⟩
  · replace h := g_neg c4 h
    refine go_aload_n (q := 34) dX9_sets_33 rfl rfl ?_
    refine go_aload_n (q := 35) dX9_sets_34 rfl rfl ?_
    refine go_get (v := .int (s.1 26)) (q := 38) dX9_sets_35 fX9_75 (wg_23 _) rfl rfl ?_
    refine go_if_eq (tgt := 47) (q := 41) dX9_sets_38 (by decide) rfl (fun c6 => ?_) (fun c6 => ?_)
    · replace h := g_pos c6 h
      refine go_iload_n (q := 48) dX9_sets_47 rfl rfl ?_
      refine go_ls (ls2 := [none, none, none]) trivial ?_
      exact b_X9_sets_48 r (ss (sa s 22 x1.toNatClampNeg ((s.1 27) - (s.1 27) / 2 * 2)) 27 ((s.1 27) + 1)) ((s.1 27) - (s.1 27) / 2 * 2) h
    · replace h := g_neg c6 h
      refine go_iconst (v := 1) (q := 42) dX9_sets_41 (by decide) rfl ?_
      refine go_iload_n (q := 43) dX9_sets_42 rfl rfl ?_
      refine go_isub (q := 44) dX9_sets_43 rfl ?_
      refine go_goto (tgt := 48) dX9_sets_44 (by decide) ?_
      refine go_ls (ls2 := [none, none, none]) trivial ?_
      exact b_X9_sets_48 r (ss (sa s 22 x1.toNatClampNeg ((s.1 27) - (s.1 27) / 2 * 2)) 27 ((s.1 27) + 1)) (1 - ((s.1 27) - (s.1 27) / 2 * 2)) h
theorem t_X9_sets (s : gS) (x1 : Int32) (r : gS) (h : f_X9_sets s x1 = some r) : Cal 5 mX9_sets [.ref 23, .int x1] (wW s) 0 0 none (wW r) := Cal.of (by decide) (g_cats rfl) (Nat.le_of_ble_eq_true rfl) (b_X9_sets r s x1 h)
def f_X9_setsUp_6 : Nat → gS → Int32 → Int32 → Option gS
  | 0, _, _, _ => none
  | φ + 1, s, x1, x2 =>
    if x1 ≤ x2 then
      some s
    else
      if inB x2 16 = true then
        (f_X9_sets s (s.2 20 x2.toNatClampNeg)).bind fun r3 =>
        f_X9_setsUp_6 φ r3 x1 (x2 + 1)
      else none
set_option maxHeartbeats 4000000 in
set_option maxRecDepth 100000 in
theorem b_X9_setsUp_6 (r : gS) : ∀ (φ : Nat) (s : gS) (x1 : Int32) (x2 : Int32) , f_X9_setsUp_6 φ s x1 x2 = some r → Go gTr yX9_setsUp cX9_setsUp 3 none 6 0 0 (fun r9 w9 => r9 = none ∧ w9 = wW r) 0 0 (wW s) 6 [some (.ref 23), some (.int x1), some (.int x2)] [] := by
  intro φ
  induction φ with
  | zero =>
    intro s x1 x2 h
    exact absurd h (by intro h0; cases h0)
  | succ φ ih =>
    intro s x1 x2 h
    rw [f_X9_setsUp_6] at h
    refine go_iload_n (q := 7) dX9_setsUp_6 rfl rfl ?_
    refine go_iload_n (q := 8) dX9_setsUp_7 rfl rfl ?_
    refine go_icmp_ge (tgt := 27) (q := 11) dX9_setsUp_8 (by decide) rfl (fun c1 => ?_) (fun c1 => ?_)
    · replace h := g_pos c1 h
      cases h
      exact go_ret dX9_setsUp_27 rfl (Nat.le_refl _) (Nat.le_refl _) ⟨rfl, rfl⟩
    · replace h := g_neg c1 h
      refine go_aload_n (q := 12) dX9_setsUp_11 rfl rfl ?_
      refine go_aload_n (q := 13) dX9_setsUp_12 rfl rfl ?_
      refine go_get (v := .ref 24) (q := 16) dX9_setsUp_13 fX9_22 (wg_23 _) rfl rfl ?_
      refine go_iload_n (q := 17) dX9_setsUp_16 rfl rfl ?_
      obtain ⟨g2, h⟩ := g_guard h
      refine go_iald (f := s.2 20) (q := 18) dX9_setsUp_17 (wg_24 _) (inB_in g2) rfl ?_
      obtain ⟨r3, e4, h⟩ := g_bind h
      refine go_callV0 (q := 21) (as := [.int (s.2 20 x2.toNatClampNeg)]) (rest := []) (st2 := []) (w2 := wW r3) dX9_setsUp_18 cX9_102 (t_X9_sets s (s.2 20 x2.toNatClampNeg) _ e4) (wg_23 _) rfl rfl rfl (Nat.le_of_ble_eq_true rfl) (by decide) ⟨Nat.le_refl _, Nat.le_refl _⟩ rfl rfl ?_
      refine go_iinc (v := x2 + 1) (ls2 := [some (.ref 23), some (.int x1), some (.int (x2 + 1))]) (q := 24) dX9_setsUp_21 (by decide) rfl rfl rfl rfl ?_
      refine go_goto (tgt := 6) dX9_setsUp_24 (by decide) ?_
      refine go_ls (ls2 := [some (.ref 23), some (.int x1), some (.int (x2 + 1))]) ⟨rfl, rfl, rfl, trivial⟩ ?_
      exact ih r3 x1 (x2 + 1) h
def f_X9_setsUp (s : gS) (x1 : Int32) : Option gS :=
  (f_X9_starts s).bind fun r1 =>
  f_X9_setsUp_6 gφ r1 x1 0
set_option maxHeartbeats 4000000 in
set_option maxRecDepth 100000 in
theorem b_X9_setsUp (r : gS) : ∀ (s : gS) (x1 : Int32) , f_X9_setsUp s x1 = some r → Go gTr yX9_setsUp cX9_setsUp 3 none 6 0 0 (fun r9 w9 => r9 = none ∧ w9 = wW r) 0 0 (wW s) 0 [some (.ref 23), some (.int x1), none] [] := by
  intro s x1 h
  rw [f_X9_setsUp] at h
  refine go_aload_n (q := 1) dX9_setsUp_0 rfl rfl ?_
  obtain ⟨r1, e2, h⟩ := g_bind h
  refine go_callV0 (q := 4) (as := []) (rest := []) (st2 := []) (w2 := wW r1) dX9_setsUp_1 cX9_99 (t_X9_starts s _ e2) (wg_23 _) rfl rfl rfl (Nat.le_of_ble_eq_true rfl) (by decide) ⟨Nat.le_refl _, Nat.le_refl _⟩ rfl rfl ?_
  refine go_iconst (v := 0) (q := 5) dX9_setsUp_4 (by decide) rfl ?_
  refine go_istore_n (ls2 := [some (.ref 23), some (.int x1), some (.int 0)]) (q := 6) dX9_setsUp_5 (by decide) rfl rfl ?_
  refine go_ls (ls2 := [some (.ref 23), some (.int x1), some (.int 0)]) ⟨rfl, rfl, rfl, trivial⟩ ?_
  exact b_X9_setsUp_6 r gφ r1 x1 0 h
theorem t_X9_setsUp (s : gS) (x1 : Int32) (r : gS) (h : f_X9_setsUp s x1 = some r) : Cal 6 mX9_setsUp [.ref 23, .int x1] (wW s) 0 0 none (wW r) := Cal.of (by decide) (g_cats rfl) (Nat.le_of_ble_eq_true rfl) (b_X9_setsUp r s x1 h)
def f_X9_isMove (s : gS) (x1 : Int32) : Option Int32 :=
  if x1 < 0 then
    some 0
  else
    if ((s.1 20) * (s.1 21)) ≤ x1 then
      some 0
    else
      if inB x1 16 = true then
        if (s.2 22 x1.toNatClampNeg) = 2 then
          if (s.1 25) = 0 then
            some 1
          else
            if x1 < (s.1 20) then
              some 1
            else
              if inB (x1 - (s.1 20)) 16 = true then
                if (s.2 22 (x1 - (s.1 20)).toNatClampNeg) = 2 then
                  some 0
                else
                  some 1
              else none
        else
          some 0
      else none
set_option maxHeartbeats 4000000 in
set_option maxRecDepth 100000 in
theorem b_X9_isMove (s : gS) (r : Int32) : ∀ (x1 : Int32) , f_X9_isMove s x1 = some r → Go gTr yX9_isMove cX9_isMove 2 (some .boolean) 1 0 0 (fun r9 w9 => r9 = some (.int r) ∧ w9 = wW s) 0 0 (wW s) 0 [some (.ref 23), some (.int x1)] [] := by
  intro x1 h
  rw [f_X9_isMove] at h
  refine go_iload_n (q := 1) dX9_isMove_0 rfl rfl ?_
  refine go_if_lt (tgt := 27) (q := 4) dX9_isMove_1 (by decide) rfl (fun c1 => ?_) (fun c1 => ?_)
  · replace h := g_pos c1 h
    refine go_iconst (v := 0) (q := 28) dX9_isMove_27 (by decide) rfl ?_
    cases h
    exact go_iret dX9_isMove_28 rfl rfl (Nat.le_refl _) (Nat.le_refl _) ⟨rfl, rfl⟩
  · replace h := g_neg c1 h
    refine go_iload_n (q := 5) dX9_isMove_4 rfl rfl ?_
    refine go_aload_n (q := 6) dX9_isMove_5 rfl rfl ?_
    refine go_get (v := .int (s.1 20)) (q := 9) dX9_isMove_6 fX9_7 (wg_23 _) rfl rfl ?_
    refine go_aload_n (q := 10) dX9_isMove_9 rfl rfl ?_
    refine go_get (v := .int (s.1 21)) (q := 13) dX9_isMove_10 fX9_13 (wg_23 _) rfl rfl ?_
    refine go_imul (q := 14) dX9_isMove_13 rfl ?_
    refine go_icmp_ge (tgt := 27) (q := 17) dX9_isMove_14 (by decide) rfl (fun c2 => ?_) (fun c2 => ?_)
    · replace h := g_pos c2 h
      refine go_iconst (v := 0) (q := 28) dX9_isMove_27 (by decide) rfl ?_
      cases h
      exact go_iret dX9_isMove_28 rfl rfl (Nat.le_refl _) (Nat.le_refl _) ⟨rfl, rfl⟩
    · replace h := g_neg c2 h
      refine go_aload_n (q := 18) dX9_isMove_17 rfl rfl ?_
      refine go_get (v := .ref 26) (q := 21) dX9_isMove_18 fX9_29 (wg_23 _) rfl rfl ?_
      refine go_iload_n (q := 22) dX9_isMove_21 rfl rfl ?_
      obtain ⟨g3, h⟩ := g_guard h
      refine go_iald (f := s.2 22) (q := 23) dX9_isMove_22 (wg_26 _) (inB_in g3) rfl ?_
      refine go_iconst (v := 2) (q := 24) dX9_isMove_23 (by decide) rfl ?_
      refine go_icmp_eq (tgt := 29) (q := 27) dX9_isMove_24 (by decide) rfl (fun c4 => ?_) (fun c4 => ?_)
      · replace h := g_pos c4 h
        refine go_aload_n (q := 30) dX9_isMove_29 rfl rfl ?_
        refine go_get (v := .int (s.1 25)) (q := 33) dX9_isMove_30 fX9_71 (wg_23 _) rfl rfl ?_
        refine go_if_eq (tgt := 59) (q := 36) dX9_isMove_33 (by decide) rfl (fun c5 => ?_) (fun c5 => ?_)
        · replace h := g_pos c5 h
          refine go_iconst (v := 1) (q := 60) dX9_isMove_59 (by decide) rfl ?_
          refine go_goto (tgt := 64) dX9_isMove_60 (by decide) ?_
          cases h
          exact go_iret dX9_isMove_64 rfl rfl (Nat.le_refl _) (Nat.le_refl _) ⟨rfl, rfl⟩
        · replace h := g_neg c5 h
          refine go_iload_n (q := 37) dX9_isMove_36 rfl rfl ?_
          refine go_aload_n (q := 38) dX9_isMove_37 rfl rfl ?_
          refine go_get (v := .int (s.1 20)) (q := 41) dX9_isMove_38 fX9_7 (wg_23 _) rfl rfl ?_
          refine go_icmp_lt (tgt := 59) (q := 44) dX9_isMove_41 (by decide) rfl (fun c6 => ?_) (fun c6 => ?_)
          · replace h := g_pos c6 h
            refine go_iconst (v := 1) (q := 60) dX9_isMove_59 (by decide) rfl ?_
            refine go_goto (tgt := 64) dX9_isMove_60 (by decide) ?_
            cases h
            exact go_iret dX9_isMove_64 rfl rfl (Nat.le_refl _) (Nat.le_refl _) ⟨rfl, rfl⟩
          · replace h := g_neg c6 h
            refine go_aload_n (q := 45) dX9_isMove_44 rfl rfl ?_
            refine go_get (v := .ref 26) (q := 48) dX9_isMove_45 fX9_29 (wg_23 _) rfl rfl ?_
            refine go_iload_n (q := 49) dX9_isMove_48 rfl rfl ?_
            refine go_aload_n (q := 50) dX9_isMove_49 rfl rfl ?_
            refine go_get (v := .int (s.1 20)) (q := 53) dX9_isMove_50 fX9_7 (wg_23 _) rfl rfl ?_
            refine go_isub (q := 54) dX9_isMove_53 rfl ?_
            obtain ⟨g7, h⟩ := g_guard h
            refine go_iald (f := s.2 22) (q := 55) dX9_isMove_54 (wg_26 _) (inB_in g7) rfl ?_
            refine go_iconst (v := 2) (q := 56) dX9_isMove_55 (by decide) rfl ?_
            refine go_icmp_eq (tgt := 63) (q := 59) dX9_isMove_56 (by decide) rfl (fun c8 => ?_) (fun c8 => ?_)
            · replace h := g_pos c8 h
              refine go_iconst (v := 0) (q := 64) dX9_isMove_63 (by decide) rfl ?_
              cases h
              exact go_iret dX9_isMove_64 rfl rfl (Nat.le_refl _) (Nat.le_refl _) ⟨rfl, rfl⟩
            · replace h := g_neg c8 h
              refine go_iconst (v := 1) (q := 60) dX9_isMove_59 (by decide) rfl ?_
              refine go_goto (tgt := 64) dX9_isMove_60 (by decide) ?_
              cases h
              exact go_iret dX9_isMove_64 rfl rfl (Nat.le_refl _) (Nat.le_refl _) ⟨rfl, rfl⟩
      · replace h := g_neg c4 h
        refine go_iconst (v := 0) (q := 28) dX9_isMove_27 (by decide) rfl ?_
        cases h
        exact go_iret dX9_isMove_28 rfl rfl (Nat.le_refl _) (Nat.le_refl _) ⟨rfl, rfl⟩
theorem t_X9_isMove (s : gS) (x1 : Int32) (r : Int32) (h : f_X9_isMove s x1 = some r) : Cal 1 mX9_isMove [.ref 23, .int x1] (wW s) 0 0 (some (.int r)) (wW s) := Cal.of (by decide) (g_cats rfl) (Nat.le_of_ble_eq_true rfl) (b_X9_isMove s r x1 h)
def f_X9_play (s : gS) (x1 : Int32) : Option (Int32 × gS) :=
  (f_X9_setsUp s (s.1 23)).bind fun r1 =>
  if (r1.1 28) = 3 then
    (f_X9_isMove r1 x1).bind fun r4 =>
    if r4 = 0 then
      some ((-1 : Int32), r1)
    else
      if inB (r1.1 23) 16 = true then
        (f_X9_forgets (ss (sa r1 20 ((r1.1 23).toNatClampNeg) x1) 23 ((r1.1 23) + 1))).bind fun r8 =>
        some (r8.1 23, r8)
      else none
  else
    some ((-1 : Int32), r1)
set_option maxHeartbeats 4000000 in
set_option maxRecDepth 100000 in
theorem b_X9_play (r : Int32 × gS) : ∀ (s : gS) (x1 : Int32) , f_X9_play s x1 = some r → Go gTr yX9_play cX9_play 2 (some .int) 7 0 0 (fun r9 w9 => r9 = some (.int r.1) ∧ w9 = wW r.2) 0 0 (wW s) 0 [some (.ref 23), some (.int x1)] [] := by
  intro s x1 h
  rw [f_X9_play] at h
  refine go_aload_n (q := 1) dX9_play_0 rfl rfl ?_
  refine go_aload_n (q := 2) dX9_play_1 rfl rfl ?_
  refine go_get (v := .int (s.1 23)) (q := 5) dX9_play_2 fX9_78 (wg_23 _) rfl rfl ?_
  obtain ⟨r1, e2, h⟩ := g_bind h
  refine go_callV0 (q := 8) (as := [.int (s.1 23)]) (rest := []) (st2 := []) (w2 := wW r1) dX9_play_5 cX9_106 (t_X9_setsUp s (s.1 23) _ e2) (wg_23 _) rfl rfl rfl (Nat.le_of_ble_eq_true rfl) (by decide) ⟨Nat.le_refl _, Nat.le_refl _⟩ rfl rfl ?_
  refine go_aload_n (q := 9) dX9_play_8 rfl rfl ?_
  refine go_get (v := .int (r1.1 28)) (q := 12) dX9_play_9 fX9_84 (wg_23 _) rfl rfl ?_
  refine go_iconst (v := 3) (q := 13) dX9_play_12 (by decide) rfl ?_
  refine go_icmp_ne (tgt := 24) (q := 16) dX9_play_13 (by decide) rfl (fun c3 => ?_) (fun c3 => ?_)
  · replace h := g_neg c3 h
    refine go_iconst (v := (-1 : Int32)) (q := 25) dX9_play_24 (by decide) rfl ?_
    cases h
    exact go_iret dX9_play_25 rfl rfl (Nat.le_refl _) (Nat.le_refl _) ⟨rfl, rfl⟩
  · replace h := g_pos c3 h
    refine go_aload_n (q := 17) dX9_play_16 rfl rfl ?_
    refine go_iload_n (q := 18) dX9_play_17 rfl rfl ?_
    obtain ⟨r4, e5, h⟩ := g_bind h
    refine go_callV0 (q := 21) (as := [.int x1]) (rest := []) (st2 := [.int r4]) (w2 := wW r1) dX9_play_18 cX9_109 (t_X9_isMove r1 x1 _ e5) (wg_23 _) rfl rfl rfl (Nat.le_of_ble_eq_true rfl) (by decide) ⟨Nat.le_refl _, Nat.le_refl _⟩ rfl rfl ?_
    refine go_if_ne (tgt := 26) (q := 24) dX9_play_21 (by decide) rfl (fun c6 => ?_) (fun c6 => ?_)
    · replace h := g_neg c6 h
      refine go_aload_n (q := 27) dX9_play_26 rfl rfl ?_
      refine go_get (v := .ref 24) (q := 30) dX9_play_27 fX9_22 (wg_23 _) rfl rfl ?_
      refine go_aload_n (q := 31) dX9_play_30 rfl rfl ?_
      refine go_get (v := .int (r1.1 23)) (q := 34) dX9_play_31 fX9_78 (wg_23 _) rfl rfl ?_
      refine go_iload_n (q := 35) dX9_play_34 rfl rfl ?_
      obtain ⟨g7, h⟩ := g_guard h
      refine go_iast (w2 := wW (sa r1 20 ((r1.1 23).toNatClampNeg) x1)) (q := 36) dX9_play_35 (wg_24 _) (inB_in g7) (wa_24 _ _ _) rfl ?_
      refine go_aload_n (q := 37) dX9_play_36 rfl rfl ?_
      refine go_aload_n (q := 38) dX9_play_37 rfl rfl ?_
      refine go_get (v := .int (r1.1 23)) (q := 41) dX9_play_38 fX9_78 (wg_23 _) rfl rfl ?_
      refine go_iconst (v := 1) (q := 42) dX9_play_41 (by decide) rfl ?_
      refine go_iadd (q := 43) dX9_play_42 rfl ?_
      refine go_put (w2 := wW (ss (sa r1 20 ((r1.1 23).toNatClampNeg) x1) 23 ((r1.1 23) + 1))) (q := 46) dX9_play_43 fX9_78 (wg_23 _) (Nat.le_of_ble_eq_true rfl) (fun _ => rfl) (fun _ => rfl) (wp_23_3 _ _) rfl ?_
      refine go_aload_n (q := 47) dX9_play_46 rfl rfl ?_
      obtain ⟨r8, e9, h⟩ := g_bind h
      refine go_callV0 (q := 50) (as := []) (rest := []) (st2 := []) (w2 := wW r8) dX9_play_47 cX9_64 (t_X9_forgets (ss (sa r1 20 ((r1.1 23).toNatClampNeg) x1) 23 ((r1.1 23) + 1)) _ e9) (wg_23 _) rfl rfl rfl (Nat.le_of_ble_eq_true rfl) (by decide) ⟨Nat.le_refl _, Nat.le_refl _⟩ rfl rfl ?_
      refine go_aload_n (q := 51) dX9_play_50 rfl rfl ?_
      refine go_get (v := .int (r8.1 23)) (q := 54) dX9_play_51 fX9_78 (wg_23 _) rfl rfl ?_
      cases h
      exact go_iret dX9_play_54 rfl rfl (Nat.le_refl _) (Nat.le_refl _) ⟨rfl, rfl⟩
    · replace h := g_pos c6 h
      refine go_iconst (v := (-1 : Int32)) (q := 25) dX9_play_24 (by decide) rfl ?_
      cases h
      exact go_iret dX9_play_25 rfl rfl (Nat.le_refl _) (Nat.le_refl _) ⟨rfl, rfl⟩
theorem t_X9_play (s : gS) (x1 : Int32) (r : Int32 × gS) (h : f_X9_play s x1 = some r) : Cal 7 mX9_play [.ref 23, .int x1] (wW s) 0 0 (some (.int r.1)) (wW r.2) := Cal.of (by decide) (g_cats rfl) (Nat.le_of_ble_eq_true rfl) (b_X9_play r s x1 h)
def f_X9_back (s : gS) : Option (Int32 × gS) :=
  if (s.1 23) = 0 then
    some ((-1 : Int32), s)
  else
    (f_X9_forgets (ss s 23 ((s.1 23) - 1))).bind fun r2 =>
    some (r2.1 23, r2)
set_option maxHeartbeats 4000000 in
set_option maxRecDepth 100000 in
theorem b_X9_back (r : Int32 × gS) : ∀ (s : gS) , f_X9_back s = some r → Go gTr yX9_back cX9_back 1 (some .int) 2 0 0 (fun r9 w9 => r9 = some (.int r.1) ∧ w9 = wW r.2) 0 0 (wW s) 0 [some (.ref 23)] [] := by
  intro s h
  rw [f_X9_back] at h
  refine go_aload_n (q := 1) dX9_back_0 rfl rfl ?_
  refine go_get (v := .int (s.1 23)) (q := 4) dX9_back_1 fX9_78 (wg_23 _) rfl rfl ?_
  refine go_if_ne (tgt := 9) (q := 7) dX9_back_4 (by decide) rfl (fun c1 => ?_) (fun c1 => ?_)
  · replace h := g_neg c1 h
    refine go_aload_n (q := 10) dX9_back_9 rfl rfl ?_
    refine go_aload_n (q := 11) dX9_back_10 rfl rfl ?_
    refine go_get (v := .int (s.1 23)) (q := 14) dX9_back_11 fX9_78 (wg_23 _) rfl rfl ?_
    refine go_iconst (v := 1) (q := 15) dX9_back_14 (by decide) rfl ?_
    refine go_isub (q := 16) dX9_back_15 rfl ?_
    refine go_put (w2 := wW (ss s 23 ((s.1 23) - 1))) (q := 19) dX9_back_16 fX9_78 (wg_23 _) (Nat.le_of_ble_eq_true rfl) (fun _ => rfl) (fun _ => rfl) (wp_23_3 _ _) rfl ?_
    refine go_aload_n (q := 20) dX9_back_19 rfl rfl ?_
    obtain ⟨r2, e3, h⟩ := g_bind h
    refine go_callV0 (q := 23) (as := []) (rest := []) (st2 := []) (w2 := wW r2) dX9_back_20 cX9_64 (t_X9_forgets (ss s 23 ((s.1 23) - 1)) _ e3) (wg_23 _) rfl rfl rfl (Nat.le_of_ble_eq_true rfl) (by decide) ⟨Nat.le_refl _, Nat.le_refl _⟩ rfl rfl ?_
    refine go_aload_n (q := 24) dX9_back_23 rfl rfl ?_
    refine go_get (v := .int (r2.1 23)) (q := 27) dX9_back_24 fX9_78 (wg_23 _) rfl rfl ?_
    cases h
    exact go_iret dX9_back_27 rfl rfl (Nat.le_refl _) (Nat.le_refl _) ⟨rfl, rfl⟩
  · replace h := g_pos c1 h
    refine go_iconst (v := (-1 : Int32)) (q := 8) dX9_back_7 (by decide) rfl ?_
    cases h
    exact go_iret dX9_back_8 rfl rfl (Nat.le_refl _) (Nat.le_refl _) ⟨rfl, rfl⟩
theorem t_X9_back (s : gS) (r : Int32 × gS) (h : f_X9_back s = some r) : Cal 2 mX9_back [.ref 23] (wW s) 0 0 (some (.int r.1)) (wW r.2) := Cal.of (by decide) (g_cats rfl) (Nat.le_of_ble_eq_true rfl) (b_X9_back r s h)
def f_X9_depth (s : gS) (x1 : Int32) : Option (Int32 × gS) :=
  (f_X9_in x1 1 4).bind fun r1 =>
  if r1 = 0 then
    some (0, s)
  else
    (f_X9_forgets (ss s 24 x1)).bind fun r4 =>
    some (1, r4)
set_option maxHeartbeats 4000000 in
set_option maxRecDepth 100000 in
theorem b_X9_depth (r : Int32 × gS) : ∀ (s : gS) (x1 : Int32) , f_X9_depth s x1 = some r → Go gTr yX9_depth cX9_depth 2 (some .boolean) 2 0 0 (fun r9 w9 => r9 = some (.int r.1) ∧ w9 = wW r.2) 0 0 (wW s) 0 [some (.ref 23), some (.int x1)] [] := by
  intro s x1 h
  rw [f_X9_depth] at h
  refine go_iload_n (q := 1) dX9_depth_0 rfl rfl ?_
  refine go_iconst (v := 1) (q := 2) dX9_depth_1 (by decide) rfl ?_
  refine go_iconst (v := 4) (q := 3) dX9_depth_2 (by decide) rfl ?_
  obtain ⟨r1, e2, h⟩ := g_bind h
  refine go_callS0 (q := 6) (as := [.int x1, .int 1, .int 4]) (rest := []) (st2 := [.int r1]) (w2 := wW s) dX9_depth_3 cX9_67 (t_X9_in _ x1 1 4 _ e2) rfl rfl (Nat.le_of_ble_eq_true rfl) (by decide) ⟨Nat.le_refl _, Nat.le_refl _⟩ rfl rfl ?_
  refine go_if_ne (tgt := 11) (q := 9) dX9_depth_6 (by decide) rfl (fun c3 => ?_) (fun c3 => ?_)
  · replace h := g_neg c3 h
    refine go_aload_n (q := 12) dX9_depth_11 rfl rfl ?_
    refine go_iload_n (q := 13) dX9_depth_12 rfl rfl ?_
    refine go_put (w2 := wW (ss s 24 x1)) (q := 16) dX9_depth_13 fX9_19 (wg_23 _) (Nat.le_of_ble_eq_true rfl) (fun _ => rfl) (fun _ => rfl) (wp_23_4 _ _) rfl ?_
    refine go_aload_n (q := 17) dX9_depth_16 rfl rfl ?_
    obtain ⟨r4, e5, h⟩ := g_bind h
    refine go_callV0 (q := 20) (as := []) (rest := []) (st2 := []) (w2 := wW r4) dX9_depth_17 cX9_64 (t_X9_forgets (ss s 24 x1) _ e5) (wg_23 _) rfl rfl rfl (Nat.le_of_ble_eq_true rfl) (by decide) ⟨Nat.le_refl _, Nat.le_refl _⟩ rfl rfl ?_
    refine go_iconst (v := 1) (q := 21) dX9_depth_20 (by decide) rfl ?_
    cases h
    exact go_iret dX9_depth_21 rfl rfl (Nat.le_refl _) (Nat.le_refl _) ⟨rfl, rfl⟩
  · replace h := g_pos c3 h
    refine go_iconst (v := 0) (q := 10) dX9_depth_9 (by decide) rfl ?_
    cases h
    exact go_iret dX9_depth_10 rfl rfl (Nat.le_refl _) (Nat.le_refl _) ⟨rfl, rfl⟩
theorem t_X9_depth (s : gS) (x1 : Int32) (r : Int32 × gS) (h : f_X9_depth s x1 = some r) : Cal 2 mX9_depth [.ref 23, .int x1] (wW s) 0 0 (some (.int r.1)) (wW r.2) := Cal.of (by decide) (g_cats rfl) (Nat.le_of_ble_eq_true rfl) (b_X9_depth r s x1 h)
def f_X9_weight (s : gS) (x1 : Int32) (x2 : Int32) : Option (Int32 × gS) :=
  (f_X9_in x1 0 5).bind fun r1 =>
  if r1 = 0 then
    some (0, s)
  else
    (f_X9_in x2 0 99).bind fun r4 =>
    if r4 = 0 then
      some (0, s)
    else
      if inB x1 6 = true then
        some (1, (sa s 21 x1.toNatClampNeg x2))
      else none
set_option maxHeartbeats 4000000 in
set_option maxRecDepth 100000 in
theorem b_X9_weight (r : Int32 × gS) : ∀ (s : gS) (x1 : Int32) (x2 : Int32) , f_X9_weight s x1 x2 = some r → Go gTr yX9_weight cX9_weight 3 (some .boolean) 2 0 0 (fun r9 w9 => r9 = some (.int r.1) ∧ w9 = wW r.2) 0 0 (wW s) 0 [some (.ref 23), some (.int x1), some (.int x2)] [] := by
  intro s x1 x2 h
  rw [f_X9_weight] at h
  refine go_iload_n (q := 1) dX9_weight_0 rfl rfl ?_
  refine go_iconst (v := 0) (q := 2) dX9_weight_1 (by decide) rfl ?_
  refine go_iconst (v := 5) (q := 3) dX9_weight_2 (by decide) rfl ?_
  obtain ⟨r1, e2, h⟩ := g_bind h
  refine go_callS0 (q := 6) (as := [.int x1, .int 0, .int 5]) (rest := []) (st2 := [.int r1]) (w2 := wW s) dX9_weight_3 cX9_67 (t_X9_in _ x1 0 5 _ e2) rfl rfl (Nat.le_of_ble_eq_true rfl) (by decide) ⟨Nat.le_refl _, Nat.le_refl _⟩ rfl rfl ?_
  refine go_if_eq (tgt := 19) (q := 9) dX9_weight_6 (by decide) rfl (fun c3 => ?_) (fun c3 => ?_)
  · replace h := g_pos c3 h
    refine go_iconst (v := 0) (q := 20) dX9_weight_19 (by decide) rfl ?_
    cases h
    exact go_iret dX9_weight_20 rfl rfl (Nat.le_refl _) (Nat.le_refl _) ⟨rfl, rfl⟩
  · replace h := g_neg c3 h
    refine go_iload_n (q := 10) dX9_weight_9 rfl rfl ?_
    refine go_iconst (v := 0) (q := 11) dX9_weight_10 (by decide) rfl ?_
    refine go_bipush (v := 99) (q := 13) dX9_weight_11 (by decide) rfl ?_
    obtain ⟨r4, e5, h⟩ := g_bind h
    refine go_callS0 (q := 16) (as := [.int x2, .int 0, .int 99]) (rest := []) (st2 := [.int r4]) (w2 := wW s) dX9_weight_13 cX9_67 (t_X9_in _ x2 0 99 _ e5) rfl rfl (Nat.le_of_ble_eq_true rfl) (by decide) ⟨Nat.le_refl _, Nat.le_refl _⟩ rfl rfl ?_
    refine go_if_ne (tgt := 21) (q := 19) dX9_weight_16 (by decide) rfl (fun c6 => ?_) (fun c6 => ?_)
    · replace h := g_neg c6 h
      refine go_aload_n (q := 22) dX9_weight_21 rfl rfl ?_
      refine go_get (v := .ref 25) (q := 25) dX9_weight_22 fX9_26 (wg_23 _) rfl rfl ?_
      refine go_iload_n (q := 26) dX9_weight_25 rfl rfl ?_
      refine go_iload_n (q := 27) dX9_weight_26 rfl rfl ?_
      obtain ⟨g7, h⟩ := g_guard h
      refine go_iast (w2 := wW (sa s 21 x1.toNatClampNeg x2)) (q := 28) dX9_weight_27 (wg_25 _) (inB_in g7) (wa_25 _ _ _) rfl ?_
      refine go_iconst (v := 1) (q := 29) dX9_weight_28 (by decide) rfl ?_
      cases h
      exact go_iret dX9_weight_29 rfl rfl (Nat.le_refl _) (Nat.le_refl _) ⟨rfl, rfl⟩
    · replace h := g_pos c6 h
      refine go_iconst (v := 0) (q := 20) dX9_weight_19 (by decide) rfl ?_
      cases h
      exact go_iret dX9_weight_20 rfl rfl (Nat.le_refl _) (Nat.le_refl _) ⟨rfl, rfl⟩
theorem t_X9_weight (s : gS) (x1 : Int32) (x2 : Int32) (r : Int32 × gS) (h : f_X9_weight s x1 x2 = some r) : Cal 2 mX9_weight [.ref 23, .int x1, .int x2] (wW s) 0 0 (some (.int r.1)) (wW r.2) := Cal.of (by decide) (g_cats rfl) (Nat.le_of_ble_eq_true rfl) (b_X9_weight r s x1 x2 h)
def f_X9_searched_114 (K75 : gS → Int32 → Int32 → Int32 → Int32 → Option (Int32 × gS)) (s : gS) (x1 : Int32) (x2 : Int32) (x3 : Int32) (x4 : Int32) : Option (Int32 × gS) :=
  if inB x2 6 = true then
    if 0 ≤ (x2 - 1) then
      if inB (x2 - 1) 6 = true then
        if inB (s.2 25 (x2 - 1).toNatClampNeg) 16 = true then
          if inB (x2 - 1) 6 = true then
            if (-(s.2 23 x2.toNatClampNeg)) ≤ (s.2 23 (x2 - 1).toNatClampNeg) then
              K75 (sa s 22 ((s.2 25 (x2 - 1).toNatClampNeg).toNatClampNeg) 2) x1 (x2 - 1) x3 x4
            else
              if inB (x2 - 1) 6 = true then
                K75 (sa (sa s 22 ((s.2 25 (x2 - 1).toNatClampNeg).toNatClampNeg) 2) 23 ((x2 - 1).toNatClampNeg) (-(s.2 23 x2.toNatClampNeg))) x1 (x2 - 1) x3 x4
              else none
          else none
        else none
      else none
    else
      some (s.2 23 x2.toNatClampNeg, s)
  else none
set_option maxHeartbeats 4000000 in
set_option maxRecDepth 100000 in
theorem b_X9_searched_114 (K75 : gS → Int32 → Int32 → Int32 → Int32 → Option (Int32 × gS)) (r : Int32 × gS) (hK75 : ∀ (s : gS) (x1 : Int32) (x2 : Int32) (x3 : Int32) (x4 : Int32) , K75 s x1 x2 x3 x4 = some r → Go gTr yX9_searched cX9_searched 10 (some .int) 5 0 0 (fun r9 w9 => r9 = some (.int r.1) ∧ w9 = wW r.2) 0 0 (wW s) 75 [some (.ref 23), some (.int x1), some (.int x2), some (.int x3), some (.int x4), none, none, none, none, none] []) : ∀ (s : gS) (x1 : Int32) (x2 : Int32) (x3 : Int32) (x4 : Int32) , f_X9_searched_114 K75 s x1 x2 x3 x4 = some r → Go gTr yX9_searched cX9_searched 10 (some .int) 5 0 0 (fun r9 w9 => r9 = some (.int r.1) ∧ w9 = wW r.2) 0 0 (wW s) 114 [some (.ref 23), some (.int x1), some (.int x2), some (.int x3), some (.int x4), none, none, none, none, none] [] := by
  intro s x1 x2 x3 x4 h
  rw [f_X9_searched_114] at h
  refine go_aload_n (q := 115) dX9_searched_114 rfl rfl ?_
  refine go_get (v := .ref 27) (q := 118) dX9_searched_115 fX9_32 (wg_23 _) rfl rfl ?_
  refine go_iload_n (q := 119) dX9_searched_118 rfl rfl ?_
  obtain ⟨g1, h⟩ := g_guard h
  refine go_iald (f := s.2 23) (q := 120) dX9_searched_119 (wg_27 _) (inB_in g1) rfl ?_
  refine go_istore (ls2 := [some (.ref 23), some (.int x1), some (.int x2), some (.int x3), some (.int x4), none, some (.int (s.2 23 x2.toNatClampNeg)), none, none, none]) (q := 122) dX9_searched_120 (by decide) rfl rfl ?_
  refine go_iload_n (q := 123) dX9_searched_122 rfl rfl ?_
  refine go_iconst (v := 1) (q := 124) dX9_searched_123 (by decide) rfl ?_
  refine go_isub (q := 125) dX9_searched_124 rfl ?_
  refine go_istore_n (ls2 := [some (.ref 23), some (.int x1), some (.int (x2 - 1)), some (.int x3), some (.int x4), none, some (.int (s.2 23 x2.toNatClampNeg)), none, none, none]) (q := 126) dX9_searched_125 (by decide) rfl rfl ?_
  refine go_iload_n (q := 127) dX9_searched_126 rfl rfl ?_
  refine go_if_ge (tgt := 133) (q := 130) dX9_searched_127 (by decide) rfl (fun c2 => ?_) (fun c2 => ?_)
  · replace h := g_pos c2 h
    refine go_aload_n (q := 134) dX9_searched_133 rfl rfl ?_
    refine go_get (v := .ref 26) (q := 137) dX9_searched_134 fX9_29 (wg_23 _) rfl rfl ?_
    refine go_aload_n (q := 138) dX9_searched_137 rfl rfl ?_
    refine go_get (v := .ref 29) (q := 141) dX9_searched_138 fX9_38 (wg_23 _) rfl rfl ?_
    refine go_iload_n (q := 142) dX9_searched_141 rfl rfl ?_
    obtain ⟨g3, h⟩ := g_guard h
    refine go_iald (f := s.2 25) (q := 143) dX9_searched_142 (wg_29 _) (inB_in g3) rfl ?_
    refine go_iconst (v := 2) (q := 144) dX9_searched_143 (by decide) rfl ?_
    obtain ⟨g4, h⟩ := g_guard h
    refine go_iast (w2 := wW (sa s 22 ((s.2 25 (x2 - 1).toNatClampNeg).toNatClampNeg) 2)) (q := 145) dX9_searched_144 (wg_26 _) (inB_in g4) (wa_26 _ _ _) rfl ?_
    refine go_iload (q := 147) dX9_searched_145 rfl rfl ?_
    refine go_ineg (q := 148) dX9_searched_147 rfl ?_
    refine go_aload_n (q := 149) dX9_searched_148 rfl rfl ?_
    refine go_get (v := .ref 27) (q := 152) dX9_searched_149 fX9_32 (wg_23 _) rfl rfl ?_
    refine go_iload_n (q := 153) dX9_searched_152 rfl rfl ?_
    obtain ⟨g5, h⟩ := g_guard h
    refine go_iald (f := s.2 23) (q := 154) dX9_searched_153 (wg_27 _) (inB_in g5) rfl ?_
    refine go_icmp_le (tgt := 75) (q := 157) dX9_searched_154 (by decide) rfl (fun c6 => ?_) (fun c6 => ?_)
    · replace h := g_pos c6 h
      refine go_ls (ls2 := [some (.ref 23), some (.int x1), some (.int (x2 - 1)), some (.int x3), some (.int x4), none, none, none, none, none]) ⟨rfl, rfl, rfl, rfl, rfl, trivial⟩ ?_
      exact hK75 (sa s 22 ((s.2 25 (x2 - 1).toNatClampNeg).toNatClampNeg) 2) x1 (x2 - 1) x3 x4 h
    · replace h := g_neg c6 h
      refine go_aload_n (q := 158) dX9_searched_157 rfl rfl ?_
      refine go_get (v := .ref 27) (q := 161) dX9_searched_158 fX9_32 (wg_23 _) rfl rfl ?_
      refine go_iload_n (q := 162) dX9_searched_161 rfl rfl ?_
      refine go_iload (q := 164) dX9_searched_162 rfl rfl ?_
      refine go_ineg (q := 165) dX9_searched_164 rfl ?_
      obtain ⟨g7, h⟩ := g_guard h
      refine go_iast (w2 := wW (sa (sa s 22 ((s.2 25 (x2 - 1).toNatClampNeg).toNatClampNeg) 2) 23 ((x2 - 1).toNatClampNeg) (-(s.2 23 x2.toNatClampNeg)))) (q := 166) dX9_searched_165 (wg_27 _) (inB_in g7) (wa_27 _ _ _) rfl ?_
      refine go_goto (tgt := 75) dX9_searched_166 (by decide) ?_
      refine go_ls (ls2 := [some (.ref 23), some (.int x1), some (.int (x2 - 1)), some (.int x3), some (.int x4), none, none, none, none, none]) ⟨rfl, rfl, rfl, rfl, rfl, trivial⟩ ?_
      exact hK75 (sa (sa s 22 ((s.2 25 (x2 - 1).toNatClampNeg).toNatClampNeg) 2) 23 ((x2 - 1).toNatClampNeg) (-(s.2 23 x2.toNatClampNeg))) x1 (x2 - 1) x3 x4 h
  · replace h := g_neg c2 h
    refine go_iload (q := 132) dX9_searched_130 rfl rfl ?_
    cases h
    exact go_iret dX9_searched_132 rfl rfl (Nat.le_refl _) (Nat.le_refl _) ⟨rfl, rfl⟩
def f_X9_searched_281 (K75 : gS → Int32 → Int32 → Int32 → Int32 → Option (Int32 × gS)) (s : gS) (x1 : Int32) (x2 : Int32) (x3 : Int32) (x4 : Int32) (x6 : Int32) (t0 : Int32) : Option (Int32 × gS) :=
  if inB x6 16 = true then
    if inB x2 6 = true then
      if t0 ≤ (s.2 23 x2.toNatClampNeg) then
        K75 (sa s 22 x6.toNatClampNeg 2) x1 x2 x3 x4
      else
        if inB x2 6 = true then
          K75 (sa (sa s 22 x6.toNatClampNeg 2) 23 x2.toNatClampNeg t0) x1 x2 x3 x4
        else none
    else none
  else none
set_option maxHeartbeats 4000000 in
set_option maxRecDepth 100000 in
theorem b_X9_searched_281 (K75 : gS → Int32 → Int32 → Int32 → Int32 → Option (Int32 × gS)) (r : Int32 × gS) (hK75 : ∀ (s : gS) (x1 : Int32) (x2 : Int32) (x3 : Int32) (x4 : Int32) , K75 s x1 x2 x3 x4 = some r → Go gTr yX9_searched cX9_searched 10 (some .int) 5 0 0 (fun r9 w9 => r9 = some (.int r.1) ∧ w9 = wW r.2) 0 0 (wW s) 75 [some (.ref 23), some (.int x1), some (.int x2), some (.int x3), some (.int x4), none, none, none, none, none] []) : ∀ (s : gS) (x1 : Int32) (x2 : Int32) (x3 : Int32) (x4 : Int32) (x6 : Int32) (t0 : Int32) , f_X9_searched_281 K75 s x1 x2 x3 x4 x6 t0 = some r → Go gTr yX9_searched cX9_searched 10 (some .int) 5 0 0 (fun r9 w9 => r9 = some (.int r.1) ∧ w9 = wW r.2) 0 0 (wW s) 281 [some (.ref 23), some (.int x1), some (.int x2), some (.int x3), some (.int x4), none, some (.int x6), none, none, none] [.int t0] := by
  intro s x1 x2 x3 x4 x6 t0 h
  rw [f_X9_searched_281] at h
  refine go_istore (ls2 := [some (.ref 23), some (.int x1), some (.int x2), some (.int x3), some (.int x4), none, some (.int x6), none, none, some (.int t0)]) (q := 283) dX9_searched_281 (by decide) rfl rfl ?_
  refine go_aload_n (q := 284) dX9_searched_283 rfl rfl ?_
  refine go_get (v := .ref 26) (q := 287) dX9_searched_284 fX9_29 (wg_23 _) rfl rfl ?_
  refine go_iload (q := 289) dX9_searched_287 rfl rfl ?_
  refine go_iconst (v := 2) (q := 290) dX9_searched_289 (by decide) rfl ?_
  obtain ⟨g1, h⟩ := g_guard h
  refine go_iast (w2 := wW (sa s 22 x6.toNatClampNeg 2)) (q := 291) dX9_searched_290 (wg_26 _) (inB_in g1) (wa_26 _ _ _) rfl ?_
  refine go_iload (q := 293) dX9_searched_291 rfl rfl ?_
  refine go_aload_n (q := 294) dX9_searched_293 rfl rfl ?_
  refine go_get (v := .ref 27) (q := 297) dX9_searched_294 fX9_32 (wg_23 _) rfl rfl ?_
  refine go_iload_n (q := 298) dX9_searched_297 rfl rfl ?_
  obtain ⟨g2, h⟩ := g_guard h
  refine go_iald (f := s.2 23) (q := 299) dX9_searched_298 (wg_27 _) (inB_in g2) rfl ?_
  refine go_icmp_le (tgt := 75) (q := 302) dX9_searched_299 (by decide) rfl (fun c3 => ?_) (fun c3 => ?_)
  · replace h := g_pos c3 h
    refine go_ls (ls2 := [some (.ref 23), some (.int x1), some (.int x2), some (.int x3), some (.int x4), none, none, none, none, none]) ⟨rfl, rfl, rfl, rfl, rfl, trivial⟩ ?_
    exact hK75 (sa s 22 x6.toNatClampNeg 2) x1 x2 x3 x4 h
  · replace h := g_neg c3 h
    refine go_aload_n (q := 303) dX9_searched_302 rfl rfl ?_
    refine go_get (v := .ref 27) (q := 306) dX9_searched_303 fX9_32 (wg_23 _) rfl rfl ?_
    refine go_iload_n (q := 307) dX9_searched_306 rfl rfl ?_
    refine go_iload (q := 309) dX9_searched_307 rfl rfl ?_
    obtain ⟨g4, h⟩ := g_guard h
    refine go_iast (w2 := wW (sa (sa s 22 x6.toNatClampNeg 2) 23 x2.toNatClampNeg t0)) (q := 310) dX9_searched_309 (wg_27 _) (inB_in g4) (wa_27 _ _ _) rfl ?_
    refine go_goto (tgt := 75) dX9_searched_310 (by decide) ?_
    refine go_ls (ls2 := [some (.ref 23), some (.int x1), some (.int x2), some (.int x3), some (.int x4), none, none, none, none, none]) ⟨rfl, rfl, rfl, rfl, rfl, trivial⟩ ?_
    exact hK75 (sa (sa s 22 x6.toNatClampNeg 2) 23 x2.toNatClampNeg t0) x1 x2 x3 x4 h
def f_X9_searched_253 (K75 : gS → Int32 → Int32 → Int32 → Int32 → Option (Int32 × gS)) (s : gS) (x1 : Int32) (x2 : Int32) (x3 : Int32) (x4 : Int32) (x6 : Int32) (x7 : Int32) (t0 : Int32) : Option (Int32 × gS) :=
  if t0 = 0 then
    if inB x2 6 = true then
      if inB (x2 + 1) 6 = true then
        if inB (x2 + 1) 6 = true then
          K75 (sa (sa (sa s 25 x2.toNatClampNeg x6) 23 ((x2 + 1).toNatClampNeg) (-2 : Int32)) 24 ((x2 + 1).toNatClampNeg) 0) x1 (x2 + 1) x3 x4
        else none
      else none
    else none
  else
    if x7 = 0 then
      f_X9_searched_281 K75 s x1 x2 x3 x4 x6 0
    else
      if (s.1 26) = 0 then
        f_X9_searched_281 K75 s x1 x2 x3 x4 x6 1
      else
        f_X9_searched_281 K75 s x1 x2 x3 x4 x6 (-1 : Int32)
set_option maxHeartbeats 4000000 in
set_option maxRecDepth 100000 in
theorem b_X9_searched_253 (K75 : gS → Int32 → Int32 → Int32 → Int32 → Option (Int32 × gS)) (r : Int32 × gS) (hK75 : ∀ (s : gS) (x1 : Int32) (x2 : Int32) (x3 : Int32) (x4 : Int32) , K75 s x1 x2 x3 x4 = some r → Go gTr yX9_searched cX9_searched 10 (some .int) 5 0 0 (fun r9 w9 => r9 = some (.int r.1) ∧ w9 = wW r.2) 0 0 (wW s) 75 [some (.ref 23), some (.int x1), some (.int x2), some (.int x3), some (.int x4), none, none, none, none, none] []) : ∀ (s : gS) (x1 : Int32) (x2 : Int32) (x3 : Int32) (x4 : Int32) (x6 : Int32) (x7 : Int32) (t0 : Int32) , f_X9_searched_253 K75 s x1 x2 x3 x4 x6 x7 t0 = some r → Go gTr yX9_searched cX9_searched 10 (some .int) 5 0 0 (fun r9 w9 => r9 = some (.int r.1) ∧ w9 = wW r.2) 0 0 (wW s) 253 [some (.ref 23), some (.int x1), some (.int x2), some (.int x3), some (.int x4), none, some (.int x6), some (.int x7), none, none] [.int t0] := by
  intro s x1 x2 x3 x4 x6 x7 t0 h
  rw [f_X9_searched_253] at h
  refine go_istore (ls2 := [some (.ref 23), some (.int x1), some (.int x2), some (.int x3), some (.int x4), none, some (.int x6), some (.int x7), some (.int t0), none]) (q := 255) dX9_searched_253 (by decide) rfl rfl ?_
  refine go_iload (q := 257) dX9_searched_255 rfl rfl ?_
  refine go_if_eq (tgt := 313) (q := 260) dX9_searched_257 (by decide) rfl (fun c1 => ?_) (fun c1 => ?_)
  · replace h := g_pos c1 h
    refine go_aload_n (q := 314) dX9_searched_313 rfl rfl ?_
    refine go_get (v := .ref 29) (q := 317) dX9_searched_314 fX9_38 (wg_23 _) rfl rfl ?_
    refine go_iload_n (q := 318) dX9_searched_317 rfl rfl ?_
    refine go_iload (q := 320) dX9_searched_318 rfl rfl ?_
    obtain ⟨g2, h⟩ := g_guard h
    refine go_iast (w2 := wW (sa s 25 x2.toNatClampNeg x6)) (q := 321) dX9_searched_320 (wg_29 _) (inB_in g2) (wa_29 _ _ _) rfl ?_
    refine go_iload_n (q := 322) dX9_searched_321 rfl rfl ?_
    refine go_iconst (v := 1) (q := 323) dX9_searched_322 (by decide) rfl ?_
    refine go_iadd (q := 324) dX9_searched_323 rfl ?_
    refine go_istore_n (ls2 := [some (.ref 23), some (.int x1), some (.int (x2 + 1)), some (.int x3), some (.int x4), none, some (.int x6), some (.int x7), some (.int t0), none]) (q := 325) dX9_searched_324 (by decide) rfl rfl ?_
    refine go_aload_n (q := 326) dX9_searched_325 rfl rfl ?_
    refine go_get (v := .ref 27) (q := 329) dX9_searched_326 fX9_32 (wg_23 _) rfl rfl ?_
    refine go_iload_n (q := 330) dX9_searched_329 rfl rfl ?_
    refine go_bipush (v := (-2 : Int32)) (q := 332) dX9_searched_330 (by decide) rfl ?_
    obtain ⟨g3, h⟩ := g_guard h
    refine go_iast (w2 := wW (sa (sa s 25 x2.toNatClampNeg x6) 23 ((x2 + 1).toNatClampNeg) (-2 : Int32))) (q := 333) dX9_searched_332 (wg_27 _) (inB_in g3) (wa_27 _ _ _) rfl ?_
    refine go_aload_n (q := 334) dX9_searched_333 rfl rfl ?_
    refine go_get (v := .ref 28) (q := 337) dX9_searched_334 fX9_35 (wg_23 _) rfl rfl ?_
    refine go_iload_n (q := 338) dX9_searched_337 rfl rfl ?_
    refine go_iconst (v := 0) (q := 339) dX9_searched_338 (by decide) rfl ?_
    obtain ⟨g4, h⟩ := g_guard h
    refine go_iast (w2 := wW (sa (sa (sa s 25 x2.toNatClampNeg x6) 23 ((x2 + 1).toNatClampNeg) (-2 : Int32)) 24 ((x2 + 1).toNatClampNeg) 0)) (q := 340) dX9_searched_339 (wg_28 _) (inB_in g4) (wa_28 _ _ _) rfl ?_
    refine go_goto (tgt := 75) dX9_searched_340 (by decide) ?_
    refine go_ls (ls2 := [some (.ref 23), some (.int x1), some (.int (x2 + 1)), some (.int x3), some (.int x4), none, none, none, none, none]) ⟨rfl, rfl, rfl, rfl, rfl, trivial⟩ ?_
    exact hK75 (sa (sa (sa s 25 x2.toNatClampNeg x6) 23 ((x2 + 1).toNatClampNeg) (-2 : Int32)) 24 ((x2 + 1).toNatClampNeg) 0) x1 (x2 + 1) x3 x4 h
  · replace h := g_neg c1 h
    refine go_iload (q := 262) dX9_searched_260 rfl rfl ?_
    refine go_if_ne (tgt := 269) (q := 265) dX9_searched_262 (by decide) rfl (fun c5 => ?_) (fun c5 => ?_)
    · replace h := g_neg c5 h
      refine go_aload_n (q := 270) dX9_searched_269 rfl rfl ?_
      refine go_get (v := .int (s.1 26)) (q := 273) dX9_searched_270 fX9_75 (wg_23 _) rfl rfl ?_
      refine go_if_eq (tgt := 280) (q := 276) dX9_searched_273 (by decide) rfl (fun c6 => ?_) (fun c6 => ?_)
      · replace h := g_pos c6 h
        refine go_iconst (v := 1) (q := 281) dX9_searched_280 (by decide) rfl ?_
        refine go_ls (ls2 := [some (.ref 23), some (.int x1), some (.int x2), some (.int x3), some (.int x4), none, some (.int x6), none, none, none]) ⟨rfl, rfl, rfl, rfl, rfl, rfl, trivial⟩ ?_
        exact b_X9_searched_281 K75 r hK75 s x1 x2 x3 x4 x6 1 h
      · replace h := g_neg c6 h
        refine go_iconst (v := (-1 : Int32)) (q := 277) dX9_searched_276 (by decide) rfl ?_
        refine go_goto (tgt := 281) dX9_searched_277 (by decide) ?_
        refine go_ls (ls2 := [some (.ref 23), some (.int x1), some (.int x2), some (.int x3), some (.int x4), none, some (.int x6), none, none, none]) ⟨rfl, rfl, rfl, rfl, rfl, rfl, trivial⟩ ?_
        exact b_X9_searched_281 K75 r hK75 s x1 x2 x3 x4 x6 (-1 : Int32) h
    · replace h := g_pos c5 h
      refine go_iconst (v := 0) (q := 266) dX9_searched_265 (by decide) rfl ?_
      refine go_goto (tgt := 281) dX9_searched_266 (by decide) ?_
      refine go_ls (ls2 := [some (.ref 23), some (.int x1), some (.int x2), some (.int x3), some (.int x4), none, some (.int x6), none, none, none]) ⟨rfl, rfl, rfl, rfl, rfl, rfl, trivial⟩ ?_
      exact b_X9_searched_281 K75 r hK75 s x1 x2 x3 x4 x6 0 h
def f_X9_searched_248 (K75 : gS → Int32 → Int32 → Int32 → Int32 → Option (Int32 × gS)) (s : gS) (x1 : Int32) (x2 : Int32) (x3 : Int32) (x4 : Int32) (x6 : Int32) (x7 : Int32) : Option (Int32 × gS) :=
  f_X9_searched_253 K75 s x1 x2 x3 x4 x6 x7 1
set_option maxHeartbeats 4000000 in
set_option maxRecDepth 100000 in
theorem b_X9_searched_248 (K75 : gS → Int32 → Int32 → Int32 → Int32 → Option (Int32 × gS)) (r : Int32 × gS) (hK75 : ∀ (s : gS) (x1 : Int32) (x2 : Int32) (x3 : Int32) (x4 : Int32) , K75 s x1 x2 x3 x4 = some r → Go gTr yX9_searched cX9_searched 10 (some .int) 5 0 0 (fun r9 w9 => r9 = some (.int r.1) ∧ w9 = wW r.2) 0 0 (wW s) 75 [some (.ref 23), some (.int x1), some (.int x2), some (.int x3), some (.int x4), none, none, none, none, none] []) : ∀ (s : gS) (x1 : Int32) (x2 : Int32) (x3 : Int32) (x4 : Int32) (x6 : Int32) (x7 : Int32) , f_X9_searched_248 K75 s x1 x2 x3 x4 x6 x7 = some r → Go gTr yX9_searched cX9_searched 10 (some .int) 5 0 0 (fun r9 w9 => r9 = some (.int r.1) ∧ w9 = wW r.2) 0 0 (wW s) 248 [some (.ref 23), some (.int x1), some (.int x2), some (.int x3), some (.int x4), none, some (.int x6), some (.int x7), none, none] [] := by
  intro s x1 x2 x3 x4 x6 x7 h
  rw [f_X9_searched_248] at h
  refine go_iconst (v := 1) (q := 249) dX9_searched_248 (by decide) rfl ?_
  refine go_goto (tgt := 253) dX9_searched_249 (by decide) ?_
  refine go_ls (ls2 := [some (.ref 23), some (.int x1), some (.int x2), some (.int x3), some (.int x4), none, some (.int x6), some (.int x7), none, none]) ⟨rfl, rfl, rfl, rfl, rfl, rfl, rfl, trivial⟩ ?_
  exact b_X9_searched_253 K75 r hK75 s x1 x2 x3 x4 x6 x7 1 h
def f_X9_searched_75 : Nat → gS → Int32 → Int32 → Int32 → Int32 → Option (Int32 × gS)
  | 0, _, _, _, _, _ => none
  | φ + 1, s, x1, x2, x3, x4 =>
    if x2 < 0 then
      some (0, s)
    else
      if inB x2 6 = true then
        if (s.2 24 x2.toNatClampNeg) = ((s.1 20) * (s.1 21)) then
          f_X9_searched_114 (f_X9_searched_75 φ) s x1 x2 x3 x4
        else
          if inB x2 6 = true then
            if (s.2 23 x2.toNatClampNeg) = 1 then
              f_X9_searched_114 (f_X9_searched_75 φ) s x1 x2 x3 x4
            else
              if inB x2 6 = true then
                if inB x2 6 = true then
                  (f_X9_isMove (sa s 24 x2.toNatClampNeg ((s.2 24 x2.toNatClampNeg) + 1)) (s.2 24 x2.toNatClampNeg)).bind fun r8 =>
                  if r8 = 0 then
                    f_X9_searched_75 φ (sa s 24 x2.toNatClampNeg ((s.2 24 x2.toNatClampNeg) + 1)) x1 x2 x3 x4
                  else
                    if inB (s.2 24 x2.toNatClampNeg) 16 = true then
                      (f_X9_makesRow (sa (sa s 24 x2.toNatClampNeg ((s.2 24 x2.toNatClampNeg) + 1)) 22 ((s.2 24 x2.toNatClampNeg).toNatClampNeg) ((x3 + x2) - (x3 + x2) / 2 * 2)) (s.2 24 x2.toNatClampNeg) ((x3 + x2) - (x3 + x2) / 2 * 2)).bind fun r12 =>
                      if r12 = 0 then
                        if ((x4 + x2) + 1) = ((s.1 20) * (s.1 21)) then
                          f_X9_searched_248 (f_X9_searched_75 φ) (sa (sa s 24 x2.toNatClampNeg ((s.2 24 x2.toNatClampNeg) + 1)) 22 ((s.2 24 x2.toNatClampNeg).toNatClampNeg) ((x3 + x2) - (x3 + x2) / 2 * 2)) x1 x2 x3 x4 (s.2 24 x2.toNatClampNeg) r12
                        else
                          if (x2 + 1) = x1 then
                            f_X9_searched_248 (f_X9_searched_75 φ) (sa (sa s 24 x2.toNatClampNeg ((s.2 24 x2.toNatClampNeg) + 1)) 22 ((s.2 24 x2.toNatClampNeg).toNatClampNeg) ((x3 + x2) - (x3 + x2) / 2 * 2)) x1 x2 x3 x4 (s.2 24 x2.toNatClampNeg) r12
                          else
                            f_X9_searched_253 (f_X9_searched_75 φ) (sa (sa s 24 x2.toNatClampNeg ((s.2 24 x2.toNatClampNeg) + 1)) 22 ((s.2 24 x2.toNatClampNeg).toNatClampNeg) ((x3 + x2) - (x3 + x2) / 2 * 2)) x1 x2 x3 x4 (s.2 24 x2.toNatClampNeg) r12 0
                      else
                        f_X9_searched_248 (f_X9_searched_75 φ) (sa (sa s 24 x2.toNatClampNeg ((s.2 24 x2.toNatClampNeg) + 1)) 22 ((s.2 24 x2.toNatClampNeg).toNatClampNeg) ((x3 + x2) - (x3 + x2) / 2 * 2)) x1 x2 x3 x4 (s.2 24 x2.toNatClampNeg) r12
                    else none
                else none
              else none
          else none
      else none
set_option maxHeartbeats 4000000 in
set_option maxRecDepth 100000 in
theorem b_X9_searched_75 (r : Int32 × gS) : ∀ (φ : Nat) (s : gS) (x1 : Int32) (x2 : Int32) (x3 : Int32) (x4 : Int32) , f_X9_searched_75 φ s x1 x2 x3 x4 = some r → Go gTr yX9_searched cX9_searched 10 (some .int) 5 0 0 (fun r9 w9 => r9 = some (.int r.1) ∧ w9 = wW r.2) 0 0 (wW s) 75 [some (.ref 23), some (.int x1), some (.int x2), some (.int x3), some (.int x4), none, none, none, none, none] [] := by
  intro φ
  induction φ with
  | zero =>
    intro s x1 x2 x3 x4 h
    exact absurd h (by intro h0; cases h0)
  | succ φ ih =>
    intro s x1 x2 x3 x4 h
    rw [f_X9_searched_75] at h
    refine go_iload_n (q := 76) dX9_searched_75 rfl rfl ?_
    refine go_if_lt (tgt := 343) (q := 79) dX9_searched_76 (by decide) rfl (fun c1 => ?_) (fun c1 => ?_)
    · replace h := g_pos c1 h
      refine go_iconst (v := 0) (q := 344) dX9_searched_343 (by decide) rfl ?_
      cases h
      exact go_iret dX9_searched_344 rfl rfl (Nat.le_refl _) (Nat.le_refl _) ⟨rfl, rfl⟩
    · replace h := g_neg c1 h
      refine go_iload_n (q := 80) dX9_searched_79 rfl rfl ?_
      refine go_iload_n (q := 81) dX9_searched_80 rfl rfl ?_
      refine go_iadd (q := 82) dX9_searched_81 rfl ?_
      refine go_iconst (v := 2) (q := 83) dX9_searched_82 (by decide) rfl ?_
      refine go_irem (q := 84) dX9_searched_83 (by decide) rfl ?_
      refine go_istore (ls2 := [some (.ref 23), some (.int x1), some (.int x2), some (.int x3), some (.int x4), some (.int ((x3 + x2) - (x3 + x2) / 2 * 2)), none, none, none, none]) (q := 86) dX9_searched_84 (by decide) rfl rfl ?_
      refine go_aload_n (q := 87) dX9_searched_86 rfl rfl ?_
      refine go_get (v := .ref 28) (q := 90) dX9_searched_87 fX9_35 (wg_23 _) rfl rfl ?_
      refine go_iload_n (q := 91) dX9_searched_90 rfl rfl ?_
      obtain ⟨g2, h⟩ := g_guard h
      refine go_iald (f := s.2 24) (q := 92) dX9_searched_91 (wg_28 _) (inB_in g2) rfl ?_
      refine go_aload_n (q := 93) dX9_searched_92 rfl rfl ?_
      refine go_get (v := .int (s.1 20)) (q := 96) dX9_searched_93 fX9_7 (wg_23 _) rfl rfl ?_
      refine go_aload_n (q := 97) dX9_searched_96 rfl rfl ?_
      refine go_get (v := .int (s.1 21)) (q := 100) dX9_searched_97 fX9_13 (wg_23 _) rfl rfl ?_
      refine go_imul (q := 101) dX9_searched_100 rfl ?_
      refine go_icmp_eq (tgt := 114) (q := 104) dX9_searched_101 (by decide) rfl (fun c3 => ?_) (fun c3 => ?_)
      · replace h := g_pos c3 h
        refine go_ls (ls2 := [some (.ref 23), some (.int x1), some (.int x2), some (.int x3), some (.int x4), none, none, none, none, none]) ⟨rfl, rfl, rfl, rfl, rfl, trivial⟩ ?_
        exact b_X9_searched_114 (f_X9_searched_75 φ) r (fun s x1 x2 x3 x4 h => ih s x1 x2 x3 x4 h) s x1 x2 x3 x4 h
      · replace h := g_neg c3 h
        refine go_aload_n (q := 105) dX9_searched_104 rfl rfl ?_
        refine go_get (v := .ref 27) (q := 108) dX9_searched_105 fX9_32 (wg_23 _) rfl rfl ?_
        refine go_iload_n (q := 109) dX9_searched_108 rfl rfl ?_
        obtain ⟨g4, h⟩ := g_guard h
        refine go_iald (f := s.2 23) (q := 110) dX9_searched_109 (wg_27 _) (inB_in g4) rfl ?_
        refine go_iconst (v := 1) (q := 111) dX9_searched_110 (by decide) rfl ?_
        refine go_icmp_ne (tgt := 169) (q := 114) dX9_searched_111 (by decide) rfl (fun c5 => ?_) (fun c5 => ?_)
        · replace h := g_neg c5 h
          refine go_aload_n (q := 170) dX9_searched_169 rfl rfl ?_
          refine go_get (v := .ref 28) (q := 173) dX9_searched_170 fX9_35 (wg_23 _) rfl rfl ?_
          refine go_iload_n (q := 174) dX9_searched_173 rfl rfl ?_
          obtain ⟨g6, h⟩ := g_guard h
          refine go_iald (f := s.2 24) (q := 175) dX9_searched_174 (wg_28 _) (inB_in g6) rfl ?_
          refine go_istore (ls2 := [some (.ref 23), some (.int x1), some (.int x2), some (.int x3), some (.int x4), some (.int ((x3 + x2) - (x3 + x2) / 2 * 2)), some (.int (s.2 24 x2.toNatClampNeg)), none, none, none]) (q := 177) dX9_searched_175 (by decide) rfl rfl ?_
          refine go_aload_n (q := 178) dX9_searched_177 rfl rfl ?_
          refine go_get (v := .ref 28) (q := 181) dX9_searched_178 fX9_35 (wg_23 _) rfl rfl ?_
          refine go_iload_n (q := 182) dX9_searched_181 rfl rfl ?_
          refine go_iload (q := 184) dX9_searched_182 rfl rfl ?_
          refine go_iconst (v := 1) (q := 185) dX9_searched_184 (by decide) rfl ?_
          refine go_iadd (q := 186) dX9_searched_185 rfl ?_
          obtain ⟨g7, h⟩ := g_guard h
          refine go_iast (w2 := wW (sa s 24 x2.toNatClampNeg ((s.2 24 x2.toNatClampNeg) + 1))) (q := 187) dX9_searched_186 (wg_28 _) (inB_in g7) (wa_28 _ _ _) rfl ?_
          refine go_aload_n (q := 188) dX9_searched_187 rfl rfl ?_
          refine go_iload (q := 190) dX9_searched_188 rfl rfl ?_
          obtain ⟨r8, e9, h⟩ := g_bind h
          refine go_callV0 (q := 193) (as := [.int (s.2 24 x2.toNatClampNeg)]) (rest := []) (st2 := [.int r8]) (w2 := wW (sa s 24 x2.toNatClampNeg ((s.2 24 x2.toNatClampNeg) + 1))) dX9_searched_190 cX9_109 (t_X9_isMove (sa s 24 x2.toNatClampNeg ((s.2 24 x2.toNatClampNeg) + 1)) (s.2 24 x2.toNatClampNeg) _ e9) (wg_23 _) rfl rfl rfl (Nat.le_of_ble_eq_true rfl) (by decide) ⟨Nat.le_refl _, Nat.le_refl _⟩ rfl rfl ?_
          refine go_if_ne (tgt := 199) (q := 196) dX9_searched_193 (by decide) rfl (fun c10 => ?_) (fun c10 => ?_)
          · replace h := g_neg c10 h
            refine go_aload_n (q := 200) dX9_searched_199 rfl rfl ?_
            refine go_get (v := .ref 26) (q := 203) dX9_searched_200 fX9_29 (wg_23 _) rfl rfl ?_
            refine go_iload (q := 205) dX9_searched_203 rfl rfl ?_
            refine go_iload (q := 207) dX9_searched_205 rfl rfl ?_
            obtain ⟨g11, h⟩ := g_guard h
            refine go_iast (w2 := wW (sa (sa s 24 x2.toNatClampNeg ((s.2 24 x2.toNatClampNeg) + 1)) 22 ((s.2 24 x2.toNatClampNeg).toNatClampNeg) ((x3 + x2) - (x3 + x2) / 2 * 2))) (q := 208) dX9_searched_207 (wg_26 _) (inB_in g11) (wa_26 _ _ _) rfl ?_
            refine go_aload_n (q := 209) dX9_searched_208 rfl rfl ?_
            refine go_iload (q := 211) dX9_searched_209 rfl rfl ?_
            refine go_iload (q := 213) dX9_searched_211 rfl rfl ?_
            obtain ⟨r12, e13, h⟩ := g_bind h
            refine go_callV0 (q := 216) (as := [.int (s.2 24 x2.toNatClampNeg), .int ((x3 + x2) - (x3 + x2) / 2 * 2)]) (rest := []) (st2 := [.int r12]) (w2 := wW (sa (sa s 24 x2.toNatClampNeg ((s.2 24 x2.toNatClampNeg) + 1)) 22 ((s.2 24 x2.toNatClampNeg).toNatClampNeg) ((x3 + x2) - (x3 + x2) / 2 * 2))) dX9_searched_213 cX9_95 (t_X9_makesRow (sa (sa s 24 x2.toNatClampNeg ((s.2 24 x2.toNatClampNeg) + 1)) 22 ((s.2 24 x2.toNatClampNeg).toNatClampNeg) ((x3 + x2) - (x3 + x2) / 2 * 2)) (s.2 24 x2.toNatClampNeg) ((x3 + x2) - (x3 + x2) / 2 * 2) _ e13) (wg_23 _) rfl rfl rfl (Nat.le_of_ble_eq_true rfl) (by decide) ⟨Nat.le_refl _, Nat.le_refl _⟩ rfl rfl ?_
            refine go_istore (ls2 := [some (.ref 23), some (.int x1), some (.int x2), some (.int x3), some (.int x4), some (.int ((x3 + x2) - (x3 + x2) / 2 * 2)), some (.int (s.2 24 x2.toNatClampNeg)), some (.int r12), none, none]) (q := 218) dX9_searched_216 (by decide) rfl rfl ?_
            refine go_iload (q := 220) dX9_searched_218 rfl rfl ?_
            refine go_if_ne (tgt := 248) (q := 223) dX9_searched_220 (by decide) rfl (fun c14 => ?_) (fun c14 => ?_)
            · replace h := g_neg c14 h
              refine go_ls (ls2 := [some (.ref 23), some (.int x1), some (.int x2), some (.int x3), some (.int x4), none, some (.int (s.2 24 x2.toNatClampNeg)), some (.int r12), none, none]) ⟨rfl, rfl, rfl, rfl, rfl, rfl, rfl, trivial⟩ ?_
              exact b_X9_searched_248 (f_X9_searched_75 φ) r (fun s x1 x2 x3 x4 h => ih s x1 x2 x3 x4 h) (sa (sa s 24 x2.toNatClampNeg ((s.2 24 x2.toNatClampNeg) + 1)) 22 ((s.2 24 x2.toNatClampNeg).toNatClampNeg) ((x3 + x2) - (x3 + x2) / 2 * 2)) x1 x2 x3 x4 (s.2 24 x2.toNatClampNeg) r12 h
            · replace h := g_pos c14 h
              refine go_iload (q := 225) dX9_searched_223 rfl rfl ?_
              refine go_iload_n (q := 226) dX9_searched_225 rfl rfl ?_
              refine go_iadd (q := 227) dX9_searched_226 rfl ?_
              refine go_iconst (v := 1) (q := 228) dX9_searched_227 (by decide) rfl ?_
              refine go_iadd (q := 229) dX9_searched_228 rfl ?_
              refine go_aload_n (q := 230) dX9_searched_229 rfl rfl ?_
              refine go_get (v := .int (s.1 20)) (q := 233) dX9_searched_230 fX9_7 (wg_23 _) rfl rfl ?_
              refine go_aload_n (q := 234) dX9_searched_233 rfl rfl ?_
              refine go_get (v := .int (s.1 21)) (q := 237) dX9_searched_234 fX9_13 (wg_23 _) rfl rfl ?_
              refine go_imul (q := 238) dX9_searched_237 rfl ?_
              refine go_icmp_eq (tgt := 248) (q := 241) dX9_searched_238 (by decide) rfl (fun c15 => ?_) (fun c15 => ?_)
              · replace h := g_pos c15 h
                refine go_ls (ls2 := [some (.ref 23), some (.int x1), some (.int x2), some (.int x3), some (.int x4), none, some (.int (s.2 24 x2.toNatClampNeg)), some (.int r12), none, none]) ⟨rfl, rfl, rfl, rfl, rfl, rfl, rfl, trivial⟩ ?_
                exact b_X9_searched_248 (f_X9_searched_75 φ) r (fun s x1 x2 x3 x4 h => ih s x1 x2 x3 x4 h) (sa (sa s 24 x2.toNatClampNeg ((s.2 24 x2.toNatClampNeg) + 1)) 22 ((s.2 24 x2.toNatClampNeg).toNatClampNeg) ((x3 + x2) - (x3 + x2) / 2 * 2)) x1 x2 x3 x4 (s.2 24 x2.toNatClampNeg) r12 h
              · replace h := g_neg c15 h
                refine go_iload_n (q := 242) dX9_searched_241 rfl rfl ?_
                refine go_iconst (v := 1) (q := 243) dX9_searched_242 (by decide) rfl ?_
                refine go_iadd (q := 244) dX9_searched_243 rfl ?_
                refine go_iload_n (q := 245) dX9_searched_244 rfl rfl ?_
                refine go_icmp_ne (tgt := 252) (q := 248) dX9_searched_245 (by decide) rfl (fun c16 => ?_) (fun c16 => ?_)
                · replace h := g_neg c16 h
                  refine go_iconst (v := 0) (q := 253) dX9_searched_252 (by decide) rfl ?_
                  refine go_ls (ls2 := [some (.ref 23), some (.int x1), some (.int x2), some (.int x3), some (.int x4), none, some (.int (s.2 24 x2.toNatClampNeg)), some (.int r12), none, none]) ⟨rfl, rfl, rfl, rfl, rfl, rfl, rfl, trivial⟩ ?_
                  exact b_X9_searched_253 (f_X9_searched_75 φ) r (fun s x1 x2 x3 x4 h => ih s x1 x2 x3 x4 h) (sa (sa s 24 x2.toNatClampNeg ((s.2 24 x2.toNatClampNeg) + 1)) 22 ((s.2 24 x2.toNatClampNeg).toNatClampNeg) ((x3 + x2) - (x3 + x2) / 2 * 2)) x1 x2 x3 x4 (s.2 24 x2.toNatClampNeg) r12 0 h
                · replace h := g_pos c16 h
                  refine go_ls (ls2 := [some (.ref 23), some (.int x1), some (.int x2), some (.int x3), some (.int x4), none, some (.int (s.2 24 x2.toNatClampNeg)), some (.int r12), none, none]) ⟨rfl, rfl, rfl, rfl, rfl, rfl, rfl, trivial⟩ ?_
                  exact b_X9_searched_248 (f_X9_searched_75 φ) r (fun s x1 x2 x3 x4 h => ih s x1 x2 x3 x4 h) (sa (sa s 24 x2.toNatClampNeg ((s.2 24 x2.toNatClampNeg) + 1)) 22 ((s.2 24 x2.toNatClampNeg).toNatClampNeg) ((x3 + x2) - (x3 + x2) / 2 * 2)) x1 x2 x3 x4 (s.2 24 x2.toNatClampNeg) r12 h
          · replace h := g_pos c10 h
            refine go_goto (tgt := 75) dX9_searched_196 (by decide) ?_
            refine go_ls (ls2 := [some (.ref 23), some (.int x1), some (.int x2), some (.int x3), some (.int x4), none, none, none, none, none]) ⟨rfl, rfl, rfl, rfl, rfl, trivial⟩ ?_
            exact ih (sa s 24 x2.toNatClampNeg ((s.2 24 x2.toNatClampNeg) + 1)) x1 x2 x3 x4 h
        · replace h := g_pos c5 h
          refine go_ls (ls2 := [some (.ref 23), some (.int x1), some (.int x2), some (.int x3), some (.int x4), none, none, none, none, none]) ⟨rfl, rfl, rfl, rfl, rfl, trivial⟩ ?_
          exact b_X9_searched_114 (f_X9_searched_75 φ) r (fun s x1 x2 x3 x4 h => ih s x1 x2 x3 x4 h) s x1 x2 x3 x4 h
def f_X9_searched (s : gS) (x1 : Int32) : Option (Int32 × gS) :=
  if (s.1 28) = 3 then
    if x1 = 0 then
      some (0, s)
    else
      f_X9_searched_75 gφ (sa (sa s 23 ((0 : Int32).toNatClampNeg) (-2 : Int32)) 24 ((0 : Int32).toNatClampNeg) 0) x1 0 ((s.1 27) - (s.1 27) / 2 * 2) (s.1 27)
  else
    if (s.1 28) = 2 then
      some (0, s)
    else
      if (s.1 28) = ((s.1 27) - (s.1 27) / 2 * 2) then
        some (1, s)
      else
        some ((-1 : Int32), s)
set_option maxHeartbeats 4000000 in
set_option maxRecDepth 100000 in
theorem b_X9_searched (r : Int32 × gS) : ∀ (s : gS) (x1 : Int32) , f_X9_searched s x1 = some r → Go gTr yX9_searched cX9_searched 10 (some .int) 5 0 0 (fun r9 w9 => r9 = some (.int r.1) ∧ w9 = wW r.2) 0 0 (wW s) 0 [some (.ref 23), some (.int x1), none, none, none, none, none, none, none, none] [] := by
  intro s x1 h
  rw [f_X9_searched] at h
  refine go_aload_n (q := 1) dX9_searched_0 rfl rfl ?_
  refine go_get (v := .int (s.1 28)) (q := 4) dX9_searched_1 fX9_84 (wg_23 _) rfl rfl ?_
  refine go_iconst (v := 3) (q := 5) dX9_searched_4 (by decide) rfl ?_
  refine go_icmp_eq (tgt := 39) (q := 8) dX9_searched_5 (by decide) rfl (fun c1 => ?_) (fun c1 => ?_)
  · replace h := g_pos c1 h
    refine go_iload_n (q := 40) dX9_searched_39 rfl rfl ?_
    refine go_if_ne (tgt := 45) (q := 43) dX9_searched_40 (by decide) rfl (fun c2 => ?_) (fun c2 => ?_)
    · replace h := g_neg c2 h
      refine go_iconst (v := 0) (q := 46) dX9_searched_45 (by decide) rfl ?_
      refine go_istore_n (ls2 := [some (.ref 23), some (.int x1), some (.int 0), none, none, none, none, none, none, none]) (q := 47) dX9_searched_46 (by decide) rfl rfl ?_
      refine go_aload_n (q := 48) dX9_searched_47 rfl rfl ?_
      refine go_get (v := .ref 27) (q := 51) dX9_searched_48 fX9_32 (wg_23 _) rfl rfl ?_
      refine go_iconst (v := 0) (q := 52) dX9_searched_51 (by decide) rfl ?_
      refine go_bipush (v := (-2 : Int32)) (q := 54) dX9_searched_52 (by decide) rfl ?_
      refine go_iast (w2 := wW (sa s 23 ((0 : Int32).toNatClampNeg) (-2 : Int32))) (q := 55) dX9_searched_54 (wg_27 _) (inB_in (by decide)) (wa_27 _ _ _) rfl ?_
      refine go_aload_n (q := 56) dX9_searched_55 rfl rfl ?_
      refine go_get (v := .ref 28) (q := 59) dX9_searched_56 fX9_35 (wg_23 _) rfl rfl ?_
      refine go_iconst (v := 0) (q := 60) dX9_searched_59 (by decide) rfl ?_
      refine go_iconst (v := 0) (q := 61) dX9_searched_60 (by decide) rfl ?_
      refine go_iast (w2 := wW (sa (sa s 23 ((0 : Int32).toNatClampNeg) (-2 : Int32)) 24 ((0 : Int32).toNatClampNeg) 0)) (q := 62) dX9_searched_61 (wg_28 _) (inB_in (by decide)) (wa_28 _ _ _) rfl ?_
      refine go_aload_n (q := 63) dX9_searched_62 rfl rfl ?_
      refine go_get (v := .int (s.1 27)) (q := 66) dX9_searched_63 fX9_81 (wg_23 _) rfl rfl ?_
      refine go_iconst (v := 2) (q := 67) dX9_searched_66 (by decide) rfl ?_
      refine go_irem (q := 68) dX9_searched_67 (by decide) rfl ?_
      refine go_istore_n (ls2 := [some (.ref 23), some (.int x1), some (.int 0), some (.int ((s.1 27) - (s.1 27) / 2 * 2)), none, none, none, none, none, none]) (q := 69) dX9_searched_68 (by decide) rfl rfl ?_
      refine go_aload_n (q := 70) dX9_searched_69 rfl rfl ?_
      refine go_get (v := .int (s.1 27)) (q := 73) dX9_searched_70 fX9_81 (wg_23 _) rfl rfl ?_
      refine go_istore (ls2 := [some (.ref 23), some (.int x1), some (.int 0), some (.int ((s.1 27) - (s.1 27) / 2 * 2)), some (.int (s.1 27)), none, none, none, none, none]) (q := 75) dX9_searched_73 (by decide) rfl rfl ?_
      refine go_ls (ls2 := [some (.ref 23), some (.int x1), some (.int 0), some (.int ((s.1 27) - (s.1 27) / 2 * 2)), some (.int (s.1 27)), none, none, none, none, none]) ⟨rfl, rfl, rfl, rfl, rfl, trivial⟩ ?_
      exact b_X9_searched_75 r gφ (sa (sa s 23 ((0 : Int32).toNatClampNeg) (-2 : Int32)) 24 ((0 : Int32).toNatClampNeg) 0) x1 0 ((s.1 27) - (s.1 27) / 2 * 2) (s.1 27) h
    · replace h := g_pos c2 h
      refine go_iconst (v := 0) (q := 44) dX9_searched_43 (by decide) rfl ?_
      cases h
      exact go_iret dX9_searched_44 rfl rfl (Nat.le_refl _) (Nat.le_refl _) ⟨rfl, rfl⟩
  · replace h := g_neg c1 h
    refine go_aload_n (q := 9) dX9_searched_8 rfl rfl ?_
    refine go_get (v := .int (s.1 28)) (q := 12) dX9_searched_9 fX9_84 (wg_23 _) rfl rfl ?_
    refine go_iconst (v := 2) (q := 13) dX9_searched_12 (by decide) rfl ?_
    refine go_icmp_ne (tgt := 20) (q := 16) dX9_searched_13 (by decide) rfl (fun c3 => ?_) (fun c3 => ?_)
    · replace h := g_neg c3 h
      refine go_aload_n (q := 21) dX9_searched_20 rfl rfl ?_
      refine go_get (v := .int (s.1 28)) (q := 24) dX9_searched_21 fX9_84 (wg_23 _) rfl rfl ?_
      refine go_aload_n (q := 25) dX9_searched_24 rfl rfl ?_
      refine go_get (v := .int (s.1 27)) (q := 28) dX9_searched_25 fX9_81 (wg_23 _) rfl rfl ?_
      refine go_iconst (v := 2) (q := 29) dX9_searched_28 (by decide) rfl ?_
      refine go_irem (q := 30) dX9_searched_29 (by decide) rfl ?_
      refine go_icmp_ne (tgt := 37) (q := 33) dX9_searched_30 (by decide) rfl (fun c4 => ?_) (fun c4 => ?_)
      · replace h := g_neg c4 h
        refine go_iconst (v := (-1 : Int32)) (q := 38) dX9_searched_37 (by decide) rfl ?_
        cases h
        exact go_iret dX9_searched_38 rfl rfl (Nat.le_refl _) (Nat.le_refl _) ⟨rfl, rfl⟩
      · replace h := g_pos c4 h
        refine go_iconst (v := 1) (q := 34) dX9_searched_33 (by decide) rfl ?_
        refine go_goto (tgt := 38) dX9_searched_34 (by decide) ?_
        cases h
        exact go_iret dX9_searched_38 rfl rfl (Nat.le_refl _) (Nat.le_refl _) ⟨rfl, rfl⟩
    · replace h := g_pos c3 h
      refine go_iconst (v := 0) (q := 17) dX9_searched_16 (by decide) rfl ?_
      refine go_goto (tgt := 38) dX9_searched_17 (by decide) ?_
      cases h
      exact go_iret dX9_searched_38 rfl rfl (Nat.le_refl _) (Nat.le_refl _) ⟨rfl, rfl⟩
theorem t_X9_searched (s : gS) (x1 : Int32) (r : Int32 × gS) (h : f_X9_searched s x1 = some r) : Cal 5 mX9_searched [.ref 23, .int x1] (wW s) 0 0 (some (.int r.1)) (wW r.2) := Cal.of (by decide) (g_cats rfl) (Nat.le_of_ble_eq_true rfl) (b_X9_searched r s x1 h)
def f_X9_value (s : gS) (x1 : Int32) (x2 : Int32) : Option (Int32 × gS) :=
  (f_X9_in x1 0 (s.1 23)).bind fun r1 =>
  if r1 = 0 then
    some ((-2 : Int32), s)
  else
    (f_X9_in x2 0 5).bind fun r4 =>
    if r4 = 0 then
      some ((-2 : Int32), s)
    else
      (f_X9_setsUp s x1).bind fun r7 =>
      (f_X9_searched r7 x2).bind fun r9 =>
      some (r9.1, r9.2)
set_option maxHeartbeats 4000000 in
set_option maxRecDepth 100000 in
theorem b_X9_value (r : Int32 × gS) : ∀ (s : gS) (x1 : Int32) (x2 : Int32) , f_X9_value s x1 x2 = some r → Go gTr yX9_value cX9_value 3 (some .int) 7 0 0 (fun r9 w9 => r9 = some (.int r.1) ∧ w9 = wW r.2) 0 0 (wW s) 0 [some (.ref 23), some (.int x1), some (.int x2)] [] := by
  intro s x1 x2 h
  rw [f_X9_value] at h
  refine go_iload_n (q := 1) dX9_value_0 rfl rfl ?_
  refine go_iconst (v := 0) (q := 2) dX9_value_1 (by decide) rfl ?_
  refine go_aload_n (q := 3) dX9_value_2 rfl rfl ?_
  refine go_get (v := .int (s.1 23)) (q := 6) dX9_value_3 fX9_78 (wg_23 _) rfl rfl ?_
  obtain ⟨r1, e2, h⟩ := g_bind h
  refine go_callS0 (q := 9) (as := [.int x1, .int 0, .int (s.1 23)]) (rest := []) (st2 := [.int r1]) (w2 := wW s) dX9_value_6 cX9_67 (t_X9_in _ x1 0 (s.1 23) _ e2) rfl rfl (Nat.le_of_ble_eq_true rfl) (by decide) ⟨Nat.le_refl _, Nat.le_refl _⟩ rfl rfl ?_
  refine go_if_eq (tgt := 21) (q := 12) dX9_value_9 (by decide) rfl (fun c3 => ?_) (fun c3 => ?_)
  · replace h := g_pos c3 h
    refine go_bipush (v := (-2 : Int32)) (q := 23) dX9_value_21 (by decide) rfl ?_
    cases h
    exact go_iret dX9_value_23 rfl rfl (Nat.le_refl _) (Nat.le_refl _) ⟨rfl, rfl⟩
  · replace h := g_neg c3 h
    refine go_iload_n (q := 13) dX9_value_12 rfl rfl ?_
    refine go_iconst (v := 0) (q := 14) dX9_value_13 (by decide) rfl ?_
    refine go_iconst (v := 5) (q := 15) dX9_value_14 (by decide) rfl ?_
    obtain ⟨r4, e5, h⟩ := g_bind h
    refine go_callS0 (q := 18) (as := [.int x2, .int 0, .int 5]) (rest := []) (st2 := [.int r4]) (w2 := wW s) dX9_value_15 cX9_67 (t_X9_in _ x2 0 5 _ e5) rfl rfl (Nat.le_of_ble_eq_true rfl) (by decide) ⟨Nat.le_refl _, Nat.le_refl _⟩ rfl rfl ?_
    refine go_if_ne (tgt := 24) (q := 21) dX9_value_18 (by decide) rfl (fun c6 => ?_) (fun c6 => ?_)
    · replace h := g_neg c6 h
      refine go_aload_n (q := 25) dX9_value_24 rfl rfl ?_
      refine go_iload_n (q := 26) dX9_value_25 rfl rfl ?_
      obtain ⟨r7, e8, h⟩ := g_bind h
      refine go_callV0 (q := 29) (as := [.int x1]) (rest := []) (st2 := []) (w2 := wW r7) dX9_value_26 cX9_106 (t_X9_setsUp s x1 _ e8) (wg_23 _) rfl rfl rfl (Nat.le_of_ble_eq_true rfl) (by decide) ⟨Nat.le_refl _, Nat.le_refl _⟩ rfl rfl ?_
      refine go_aload_n (q := 30) dX9_value_29 rfl rfl ?_
      refine go_iload_n (q := 31) dX9_value_30 rfl rfl ?_
      obtain ⟨r9, e10, h⟩ := g_bind h
      refine go_callV0 (q := 34) (as := [.int x2]) (rest := []) (st2 := [.int r9.1]) (w2 := wW r9.2) dX9_value_31 cX9_113 (t_X9_searched r7 x2 _ e10) (wg_23 _) rfl rfl rfl (Nat.le_of_ble_eq_true rfl) (by decide) ⟨Nat.le_refl _, Nat.le_refl _⟩ rfl rfl ?_
      cases h
      exact go_iret dX9_value_34 rfl rfl (Nat.le_refl _) (Nat.le_refl _) ⟨rfl, rfl⟩
    · replace h := g_pos c6 h
      refine go_bipush (v := (-2 : Int32)) (q := 23) dX9_value_21 (by decide) rfl ?_
      cases h
      exact go_iret dX9_value_23 rfl rfl (Nat.le_refl _) (Nat.le_refl _) ⟨rfl, rfl⟩
theorem t_X9_value (s : gS) (x1 : Int32) (x2 : Int32) (r : Int32 × gS) (h : f_X9_value s x1 x2 = some r) : Cal 7 mX9_value [.ref 23, .int x1, .int x2] (wW s) 0 0 (some (.int r.1)) (wW r.2) := Cal.of (by decide) (g_cats rfl) (Nat.le_of_ble_eq_true rfl) (b_X9_value r s x1 x2 h)
def f_X9_behind (s : gS) (x1 : Int32) (x2 : Int32) (x3 : Int32) : Option (Int32 × gS) :=
  (f_X9_setsUp s x1).bind fun r1 =>
  if (r1.1 28) = 3 then
    (f_X9_isMove r1 x2).bind fun r4 =>
    if r4 = 0 then
      some ((-3 : Int32), r1)
    else
      (f_X9_sets r1 x2).bind fun r7 =>
      (f_X9_searched r7 x3).bind fun r9 =>
      some (-r9.1, r9.2)
  else
    some ((-3 : Int32), r1)
set_option maxHeartbeats 4000000 in
set_option maxRecDepth 100000 in
theorem b_X9_behind (r : Int32 × gS) : ∀ (s : gS) (x1 : Int32) (x2 : Int32) (x3 : Int32) , f_X9_behind s x1 x2 x3 = some r → Go gTr yX9_behind cX9_behind 4 (some .int) 7 0 0 (fun r9 w9 => r9 = some (.int r.1) ∧ w9 = wW r.2) 0 0 (wW s) 0 [some (.ref 23), some (.int x1), some (.int x2), some (.int x3)] [] := by
  intro s x1 x2 x3 h
  rw [f_X9_behind] at h
  refine go_aload_n (q := 1) dX9_behind_0 rfl rfl ?_
  refine go_iload_n (q := 2) dX9_behind_1 rfl rfl ?_
  obtain ⟨r1, e2, h⟩ := g_bind h
  refine go_callV0 (q := 5) (as := [.int x1]) (rest := []) (st2 := []) (w2 := wW r1) dX9_behind_2 cX9_106 (t_X9_setsUp s x1 _ e2) (wg_23 _) rfl rfl rfl (Nat.le_of_ble_eq_true rfl) (by decide) ⟨Nat.le_refl _, Nat.le_refl _⟩ rfl rfl ?_
  refine go_aload_n (q := 6) dX9_behind_5 rfl rfl ?_
  refine go_get (v := .int (r1.1 28)) (q := 9) dX9_behind_6 fX9_84 (wg_23 _) rfl rfl ?_
  refine go_iconst (v := 3) (q := 10) dX9_behind_9 (by decide) rfl ?_
  refine go_icmp_ne (tgt := 21) (q := 13) dX9_behind_10 (by decide) rfl (fun c3 => ?_) (fun c3 => ?_)
  · replace h := g_neg c3 h
    refine go_bipush (v := (-3 : Int32)) (q := 23) dX9_behind_21 (by decide) rfl ?_
    cases h
    exact go_iret dX9_behind_23 rfl rfl (Nat.le_refl _) (Nat.le_refl _) ⟨rfl, rfl⟩
  · replace h := g_pos c3 h
    refine go_aload_n (q := 14) dX9_behind_13 rfl rfl ?_
    refine go_iload_n (q := 15) dX9_behind_14 rfl rfl ?_
    obtain ⟨r4, e5, h⟩ := g_bind h
    refine go_callV0 (q := 18) (as := [.int x2]) (rest := []) (st2 := [.int r4]) (w2 := wW r1) dX9_behind_15 cX9_109 (t_X9_isMove r1 x2 _ e5) (wg_23 _) rfl rfl rfl (Nat.le_of_ble_eq_true rfl) (by decide) ⟨Nat.le_refl _, Nat.le_refl _⟩ rfl rfl ?_
    refine go_if_ne (tgt := 24) (q := 21) dX9_behind_18 (by decide) rfl (fun c6 => ?_) (fun c6 => ?_)
    · replace h := g_neg c6 h
      refine go_aload_n (q := 25) dX9_behind_24 rfl rfl ?_
      refine go_iload_n (q := 26) dX9_behind_25 rfl rfl ?_
      obtain ⟨r7, e8, h⟩ := g_bind h
      refine go_callV0 (q := 29) (as := [.int x2]) (rest := []) (st2 := []) (w2 := wW r7) dX9_behind_26 cX9_102 (t_X9_sets r1 x2 _ e8) (wg_23 _) rfl rfl rfl (Nat.le_of_ble_eq_true rfl) (by decide) ⟨Nat.le_refl _, Nat.le_refl _⟩ rfl rfl ?_
      refine go_aload_n (q := 30) dX9_behind_29 rfl rfl ?_
      refine go_iload_n (q := 31) dX9_behind_30 rfl rfl ?_
      obtain ⟨r9, e10, h⟩ := g_bind h
      refine go_callV0 (q := 34) (as := [.int x3]) (rest := []) (st2 := [.int r9.1]) (w2 := wW r9.2) dX9_behind_31 cX9_113 (t_X9_searched r7 x3 _ e10) (wg_23 _) rfl rfl rfl (Nat.le_of_ble_eq_true rfl) (by decide) ⟨Nat.le_refl _, Nat.le_refl _⟩ rfl rfl ?_
      refine go_ineg (q := 35) dX9_behind_34 rfl ?_
      cases h
      exact go_iret dX9_behind_35 rfl rfl (Nat.le_refl _) (Nat.le_refl _) ⟨rfl, rfl⟩
    · replace h := g_pos c6 h
      refine go_bipush (v := (-3 : Int32)) (q := 23) dX9_behind_21 (by decide) rfl ?_
      cases h
      exact go_iret dX9_behind_23 rfl rfl (Nat.le_refl _) (Nat.le_refl _) ⟨rfl, rfl⟩
theorem t_X9_behind (s : gS) (x1 : Int32) (x2 : Int32) (x3 : Int32) (r : Int32 × gS) (h : f_X9_behind s x1 x2 x3 = some r) : Cal 7 mX9_behind [.ref 23, .int x1, .int x2, .int x3] (wW s) 0 0 (some (.int r.1)) (wW r.2) := Cal.of (by decide) (g_cats rfl) (Nat.le_of_ble_eq_true rfl) (b_X9_behind r s x1 x2 x3 h)
def f_X9_best_81 (K32 : gS → Int32 → Int32 → Int32 → Int32 → Int32 → Option (Int32 × gS)) (s : gS) (x1 : Int32) (x2 : Int32) (x3 : Int32) (x4 : Int32) (x5 : Int32) : Option (Int32 × gS) :=
  K32 s x1 x2 x3 x4 (x5 + 1)
set_option maxHeartbeats 4000000 in
set_option maxRecDepth 100000 in
theorem b_X9_best_81 (K32 : gS → Int32 → Int32 → Int32 → Int32 → Int32 → Option (Int32 × gS)) (r : Int32 × gS) (hK32 : ∀ (s : gS) (x1 : Int32) (x2 : Int32) (x3 : Int32) (x4 : Int32) (x5 : Int32) , K32 s x1 x2 x3 x4 x5 = some r → Go gTr yX9_best cX9_best 7 (some .int) 8 0 0 (fun r9 w9 => r9 = some (.int r.1) ∧ w9 = wW r.2) 0 0 (wW s) 32 [some (.ref 23), some (.int x1), some (.int x2), some (.int x3), some (.int x4), some (.int x5), none] []) : ∀ (s : gS) (x1 : Int32) (x2 : Int32) (x3 : Int32) (x4 : Int32) (x5 : Int32) , f_X9_best_81 K32 s x1 x2 x3 x4 x5 = some r → Go gTr yX9_best cX9_best 7 (some .int) 8 0 0 (fun r9 w9 => r9 = some (.int r.1) ∧ w9 = wW r.2) 0 0 (wW s) 81 [some (.ref 23), some (.int x1), some (.int x2), some (.int x3), some (.int x4), some (.int x5), none] [] := by
  intro s x1 x2 x3 x4 x5 h
  rw [f_X9_best_81] at h
  refine go_iinc (v := x5 + 1) (ls2 := [some (.ref 23), some (.int x1), some (.int x2), some (.int x3), some (.int x4), some (.int (x5 + 1)), none]) (q := 84) dX9_best_81 (by decide) rfl rfl rfl rfl ?_
  refine go_goto (tgt := 32) dX9_best_84 (by decide) ?_
  refine go_ls (ls2 := [some (.ref 23), some (.int x1), some (.int x2), some (.int x3), some (.int x4), some (.int (x5 + 1)), none]) ⟨rfl, rfl, rfl, rfl, rfl, rfl, trivial⟩ ?_
  exact hK32 s x1 x2 x3 x4 (x5 + 1) h
def f_X9_best_32 : Nat → gS → Int32 → Int32 → Int32 → Int32 → Int32 → Option (Int32 × gS)
  | 0, _, _, _, _, _, _ => none
  | φ + 1, s, x1, x2, x3, x4, x5 =>
    if ((s.1 20) * (s.1 21)) ≤ x5 then
      some (x4, s)
    else
      (f_X9_behind s x1 x5 (x2 - 1)).bind fun r2 =>
      if r2.1 ≤ x3 then
        f_X9_best_81 (f_X9_best_32 φ) r2.2 x1 x2 x3 x4 x5
      else
        if r2.1 = (-3 : Int32) then
          f_X9_best_81 (f_X9_best_32 φ) r2.2 x1 x2 x3 x4 x5
        else
          f_X9_best_81 (f_X9_best_32 φ) r2.2 x1 x2 r2.1 x5 x5
set_option maxHeartbeats 4000000 in
set_option maxRecDepth 100000 in
theorem b_X9_best_32 (r : Int32 × gS) : ∀ (φ : Nat) (s : gS) (x1 : Int32) (x2 : Int32) (x3 : Int32) (x4 : Int32) (x5 : Int32) , f_X9_best_32 φ s x1 x2 x3 x4 x5 = some r → Go gTr yX9_best cX9_best 7 (some .int) 8 0 0 (fun r9 w9 => r9 = some (.int r.1) ∧ w9 = wW r.2) 0 0 (wW s) 32 [some (.ref 23), some (.int x1), some (.int x2), some (.int x3), some (.int x4), some (.int x5), none] [] := by
  intro φ
  induction φ with
  | zero =>
    intro s x1 x2 x3 x4 x5 h
    exact absurd h (by intro h0; cases h0)
  | succ φ ih =>
    intro s x1 x2 x3 x4 x5 h
    rw [f_X9_best_32] at h
    refine go_iload (q := 34) dX9_best_32 rfl rfl ?_
    refine go_aload_n (q := 35) dX9_best_34 rfl rfl ?_
    refine go_get (v := .int (s.1 20)) (q := 38) dX9_best_35 fX9_7 (wg_23 _) rfl rfl ?_
    refine go_aload_n (q := 39) dX9_best_38 rfl rfl ?_
    refine go_get (v := .int (s.1 21)) (q := 42) dX9_best_39 fX9_13 (wg_23 _) rfl rfl ?_
    refine go_imul (q := 43) dX9_best_42 rfl ?_
    refine go_icmp_ge (tgt := 87) (q := 46) dX9_best_43 (by decide) rfl (fun c1 => ?_) (fun c1 => ?_)
    · replace h := g_pos c1 h
      refine go_iload (q := 89) dX9_best_87 rfl rfl ?_
      cases h
      exact go_iret dX9_best_89 rfl rfl (Nat.le_refl _) (Nat.le_refl _) ⟨rfl, rfl⟩
    · replace h := g_neg c1 h
      refine go_aload_n (q := 47) dX9_best_46 rfl rfl ?_
      refine go_iload_n (q := 48) dX9_best_47 rfl rfl ?_
      refine go_iload (q := 50) dX9_best_48 rfl rfl ?_
      refine go_iload_n (q := 51) dX9_best_50 rfl rfl ?_
      refine go_iconst (v := 1) (q := 52) dX9_best_51 (by decide) rfl ?_
      refine go_isub (q := 53) dX9_best_52 rfl ?_
      obtain ⟨r2, e3, h⟩ := g_bind h
      refine go_callV0 (q := 56) (as := [.int x1, .int x5, .int (x2 - 1)]) (rest := []) (st2 := [.int r2.1]) (w2 := wW r2.2) dX9_best_53 cX9_117 (t_X9_behind s x1 x5 (x2 - 1) _ e3) (wg_23 _) rfl rfl rfl (Nat.le_of_ble_eq_true rfl) (by decide) ⟨Nat.le_refl _, Nat.le_refl _⟩ rfl rfl ?_
      refine go_istore (ls2 := [some (.ref 23), some (.int x1), some (.int x2), some (.int x3), some (.int x4), some (.int x5), some (.int r2.1)]) (q := 58) dX9_best_56 (by decide) rfl rfl ?_
      refine go_iload (q := 60) dX9_best_58 rfl rfl ?_
      refine go_iload_n (q := 61) dX9_best_60 rfl rfl ?_
      refine go_icmp_le (tgt := 81) (q := 64) dX9_best_61 (by decide) rfl (fun c4 => ?_) (fun c4 => ?_)
      · replace h := g_pos c4 h
        refine go_ls (ls2 := [some (.ref 23), some (.int x1), some (.int x2), some (.int x3), some (.int x4), some (.int x5), none]) ⟨rfl, rfl, rfl, rfl, rfl, rfl, trivial⟩ ?_
        exact b_X9_best_81 (f_X9_best_32 φ) r (fun s x1 x2 x3 x4 x5 h => ih s x1 x2 x3 x4 x5 h) r2.2 x1 x2 x3 x4 x5 h
      · replace h := g_neg c4 h
        refine go_iload (q := 66) dX9_best_64 rfl rfl ?_
        refine go_bipush (v := (-3 : Int32)) (q := 68) dX9_best_66 (by decide) rfl ?_
        refine go_icmp_ne (tgt := 74) (q := 71) dX9_best_68 (by decide) rfl (fun c5 => ?_) (fun c5 => ?_)
        · replace h := g_neg c5 h
          refine go_iload (q := 76) dX9_best_74 rfl rfl ?_
          refine go_istore_n (ls2 := [some (.ref 23), some (.int x1), some (.int x2), some (.int r2.1), some (.int x4), some (.int x5), some (.int r2.1)]) (q := 77) dX9_best_76 (by decide) rfl rfl ?_
          refine go_iload (q := 79) dX9_best_77 rfl rfl ?_
          refine go_istore (ls2 := [some (.ref 23), some (.int x1), some (.int x2), some (.int r2.1), some (.int x5), some (.int x5), some (.int r2.1)]) (q := 81) dX9_best_79 (by decide) rfl rfl ?_
          refine go_ls (ls2 := [some (.ref 23), some (.int x1), some (.int x2), some (.int r2.1), some (.int x5), some (.int x5), none]) ⟨rfl, rfl, rfl, rfl, rfl, rfl, trivial⟩ ?_
          exact b_X9_best_81 (f_X9_best_32 φ) r (fun s x1 x2 x3 x4 x5 h => ih s x1 x2 x3 x4 x5 h) r2.2 x1 x2 r2.1 x5 x5 h
        · replace h := g_pos c5 h
          refine go_goto (tgt := 81) dX9_best_71 (by decide) ?_
          refine go_ls (ls2 := [some (.ref 23), some (.int x1), some (.int x2), some (.int x3), some (.int x4), some (.int x5), none]) ⟨rfl, rfl, rfl, rfl, rfl, rfl, trivial⟩ ?_
          exact b_X9_best_81 (f_X9_best_32 φ) r (fun s x1 x2 x3 x4 x5 h => ih s x1 x2 x3 x4 x5 h) r2.2 x1 x2 x3 x4 x5 h
def f_X9_best (s : gS) (x1 : Int32) (x2 : Int32) : Option (Int32 × gS) :=
  (f_X9_in x1 0 (s.1 23)).bind fun r1 =>
  if r1 = 0 then
    some ((-1 : Int32), s)
  else
    (f_X9_in x2 1 5).bind fun r4 =>
    if r4 = 0 then
      some ((-1 : Int32), s)
    else
      f_X9_best_32 gφ s x1 x2 (-2 : Int32) (-1 : Int32) 0
set_option maxHeartbeats 4000000 in
set_option maxRecDepth 100000 in
theorem b_X9_best (r : Int32 × gS) : ∀ (s : gS) (x1 : Int32) (x2 : Int32) , f_X9_best s x1 x2 = some r → Go gTr yX9_best cX9_best 7 (some .int) 8 0 0 (fun r9 w9 => r9 = some (.int r.1) ∧ w9 = wW r.2) 0 0 (wW s) 0 [some (.ref 23), some (.int x1), some (.int x2), none, none, none, none] [] := by
  intro s x1 x2 h
  rw [f_X9_best] at h
  refine go_iload_n (q := 1) dX9_best_0 rfl rfl ?_
  refine go_iconst (v := 0) (q := 2) dX9_best_1 (by decide) rfl ?_
  refine go_aload_n (q := 3) dX9_best_2 rfl rfl ?_
  refine go_get (v := .int (s.1 23)) (q := 6) dX9_best_3 fX9_78 (wg_23 _) rfl rfl ?_
  obtain ⟨r1, e2, h⟩ := g_bind h
  refine go_callS0 (q := 9) (as := [.int x1, .int 0, .int (s.1 23)]) (rest := []) (st2 := [.int r1]) (w2 := wW s) dX9_best_6 cX9_67 (t_X9_in _ x1 0 (s.1 23) _ e2) rfl rfl (Nat.le_of_ble_eq_true rfl) (by decide) ⟨Nat.le_refl _, Nat.le_refl _⟩ rfl rfl ?_
  refine go_if_eq (tgt := 21) (q := 12) dX9_best_9 (by decide) rfl (fun c3 => ?_) (fun c3 => ?_)
  · replace h := g_pos c3 h
    refine go_iconst (v := (-1 : Int32)) (q := 22) dX9_best_21 (by decide) rfl ?_
    cases h
    exact go_iret dX9_best_22 rfl rfl (Nat.le_refl _) (Nat.le_refl _) ⟨rfl, rfl⟩
  · replace h := g_neg c3 h
    refine go_iload_n (q := 13) dX9_best_12 rfl rfl ?_
    refine go_iconst (v := 1) (q := 14) dX9_best_13 (by decide) rfl ?_
    refine go_iconst (v := 5) (q := 15) dX9_best_14 (by decide) rfl ?_
    obtain ⟨r4, e5, h⟩ := g_bind h
    refine go_callS0 (q := 18) (as := [.int x2, .int 1, .int 5]) (rest := []) (st2 := [.int r4]) (w2 := wW s) dX9_best_15 cX9_67 (t_X9_in _ x2 1 5 _ e5) rfl rfl (Nat.le_of_ble_eq_true rfl) (by decide) ⟨Nat.le_refl _, Nat.le_refl _⟩ rfl rfl ?_
    refine go_if_ne (tgt := 23) (q := 21) dX9_best_18 (by decide) rfl (fun c6 => ?_) (fun c6 => ?_)
    · replace h := g_neg c6 h
      refine go_bipush (v := (-2 : Int32)) (q := 25) dX9_best_23 (by decide) rfl ?_
      refine go_istore_n (ls2 := [some (.ref 23), some (.int x1), some (.int x2), some (.int (-2 : Int32)), none, none, none]) (q := 26) dX9_best_25 (by decide) rfl rfl ?_
      refine go_iconst (v := (-1 : Int32)) (q := 27) dX9_best_26 (by decide) rfl ?_
      refine go_istore (ls2 := [some (.ref 23), some (.int x1), some (.int x2), some (.int (-2 : Int32)), some (.int (-1 : Int32)), none, none]) (q := 29) dX9_best_27 (by decide) rfl rfl ?_
      refine go_iconst (v := 0) (q := 30) dX9_best_29 (by decide) rfl ?_
      refine go_istore (ls2 := [some (.ref 23), some (.int x1), some (.int x2), some (.int (-2 : Int32)), some (.int (-1 : Int32)), some (.int 0), none]) (q := 32) dX9_best_30 (by decide) rfl rfl ?_
      refine go_ls (ls2 := [some (.ref 23), some (.int x1), some (.int x2), some (.int (-2 : Int32)), some (.int (-1 : Int32)), some (.int 0), none]) ⟨rfl, rfl, rfl, rfl, rfl, rfl, trivial⟩ ?_
      exact b_X9_best_32 r gφ s x1 x2 (-2 : Int32) (-1 : Int32) 0 h
    · replace h := g_pos c6 h
      refine go_iconst (v := (-1 : Int32)) (q := 22) dX9_best_21 (by decide) rfl ?_
      cases h
      exact go_iret dX9_best_22 rfl rfl (Nat.le_refl _) (Nat.le_refl _) ⟨rfl, rfl⟩
theorem t_X9_best (s : gS) (x1 : Int32) (x2 : Int32) (r : Int32 × gS) (h : f_X9_best s x1 x2 = some r) : Cal 8 mX9_best [.ref 23, .int x1, .int x2] (wW s) 0 0 (some (.int r.1)) (wW r.2) := Cal.of (by decide) (g_cats rfl) (Nat.le_of_ble_eq_true rfl) (b_X9_best r s x1 x2 h)
def f_X9_leader_74 (s : gS) (x1 : Int32) : Option (Int32 × gS) :=
  if inB x1 17 = true then
    some (s.2 26 x1.toNatClampNeg, s)
  else none
set_option maxHeartbeats 4000000 in
set_option maxRecDepth 100000 in
theorem b_X9_leader_74 (r : Int32 × gS) : ∀ (s : gS) (x1 : Int32) , f_X9_leader_74 s x1 = some r → Go gTr yX9_leader cX9_leader 3 (some .int) 7 0 0 (fun r9 w9 => r9 = some (.int r.1) ∧ w9 = wW r.2) 0 0 (wW s) 74 [some (.ref 23), some (.int x1), none] [] := by
  intro s x1 h
  rw [f_X9_leader_74] at h
  refine go_aload_n (q := 75) dX9_leader_74 rfl rfl ?_
  refine go_get (v := .ref 30) (q := 78) dX9_leader_75 fX9_41 (wg_23 _) rfl rfl ?_
  refine go_iload_n (q := 79) dX9_leader_78 rfl rfl ?_
  obtain ⟨g1, h⟩ := g_guard h
  refine go_iald (f := s.2 26) (q := 80) dX9_leader_79 (wg_30 _) (inB_in g1) rfl ?_
  cases h
  exact go_iret dX9_leader_80 rfl rfl (Nat.le_refl _) (Nat.le_refl _) ⟨rfl, rfl⟩
def f_X9_leader_66 (s : gS) (x1 : Int32) (t1 : Int32) (t2 : Int32) : Option (Int32 × gS) :=
  if inB t1 17 = true then
    if inB x1 17 = true then
      f_X9_leader_74 (sa (sa s 26 t1.toNatClampNeg t2) 27 x1.toNatClampNeg (1 &&& 1)) x1
    else none
  else none
set_option maxHeartbeats 4000000 in
set_option maxRecDepth 100000 in
theorem b_X9_leader_66 (r : Int32 × gS) : ∀ (s : gS) (x1 : Int32) (t1 : Int32) (t2 : Int32) , f_X9_leader_66 s x1 t1 t2 = some r → Go gTr yX9_leader cX9_leader 3 (some .int) 7 0 0 (fun r9 w9 => r9 = some (.int r.1) ∧ w9 = wW r.2) 0 0 (wW s) 66 [some (.ref 23), some (.int x1), none] [.int t2, .int t1, .ref 30] := by
  intro s x1 t1 t2 h
  rw [f_X9_leader_66] at h
  obtain ⟨g1, h⟩ := g_guard h
  refine go_iast (w2 := wW (sa s 26 t1.toNatClampNeg t2)) (q := 67) dX9_leader_66 (wg_30 _) (inB_in g1) (wa_30 _ _ _) rfl ?_
  refine go_aload_n (q := 68) dX9_leader_67 rfl rfl ?_
  refine go_get (v := .ref 31) (q := 71) dX9_leader_68 fX9_44 (wg_23 _) rfl rfl ?_
  refine go_iload_n (q := 72) dX9_leader_71 rfl rfl ?_
  refine go_iconst (v := 1) (q := 73) dX9_leader_72 (by decide) rfl ?_
  obtain ⟨g2, h⟩ := g_guard h
  refine go_zast (w2 := wW (sa (sa s 26 t1.toNatClampNeg t2) 27 x1.toNatClampNeg (1 &&& 1))) (q := 74) dX9_leader_73 (wg_31 _) (inB_in g2) (wa_31 _ _ _) rfl ?_
  refine go_ls (ls2 := [some (.ref 23), some (.int x1), none]) ⟨rfl, rfl, trivial⟩ ?_
  exact b_X9_leader_74 r (sa (sa s 26 t1.toNatClampNeg t2) 27 x1.toNatClampNeg (1 &&& 1)) x1 h
def f_X9_leader (s : gS) (x1 : Int32) : Option (Int32 × gS) :=
  (f_X9_in x1 0 (s.1 23)).bind fun r1 =>
  if r1 = 0 then
    some ((-1 : Int32), s)
  else
    if inB x1 17 = true then
      if (s.2 27 x1.toNatClampNeg) = 0 then
        (f_X9_setsUp s x1).bind fun r6 =>
        (f_X9_searched r6 (r6.1 24)).bind fun r8 =>
        if r8.1 = 0 then
          f_X9_leader_66 r8.2 x1 x1 2
        else
          if r8.1 = 1 then
            f_X9_leader_66 r8.2 x1 x1 (x1 - x1 / 2 * 2)
          else
            f_X9_leader_66 r8.2 x1 x1 (1 - (x1 - x1 / 2 * 2))
      else
        f_X9_leader_74 s x1
    else none
set_option maxHeartbeats 4000000 in
set_option maxRecDepth 100000 in
theorem b_X9_leader (r : Int32 × gS) : ∀ (s : gS) (x1 : Int32) , f_X9_leader s x1 = some r → Go gTr yX9_leader cX9_leader 3 (some .int) 7 0 0 (fun r9 w9 => r9 = some (.int r.1) ∧ w9 = wW r.2) 0 0 (wW s) 0 [some (.ref 23), some (.int x1), none] [] := by
  intro s x1 h
  rw [f_X9_leader] at h
  refine go_iload_n (q := 1) dX9_leader_0 rfl rfl ?_
  refine go_iconst (v := 0) (q := 2) dX9_leader_1 (by decide) rfl ?_
  refine go_aload_n (q := 3) dX9_leader_2 rfl rfl ?_
  refine go_get (v := .int (s.1 23)) (q := 6) dX9_leader_3 fX9_78 (wg_23 _) rfl rfl ?_
  obtain ⟨r1, e2, h⟩ := g_bind h
  refine go_callS0 (q := 9) (as := [.int x1, .int 0, .int (s.1 23)]) (rest := []) (st2 := [.int r1]) (w2 := wW s) dX9_leader_6 cX9_67 (t_X9_in _ x1 0 (s.1 23) _ e2) rfl rfl (Nat.le_of_ble_eq_true rfl) (by decide) ⟨Nat.le_refl _, Nat.le_refl _⟩ rfl rfl ?_
  refine go_if_ne (tgt := 14) (q := 12) dX9_leader_9 (by decide) rfl (fun c3 => ?_) (fun c3 => ?_)
  · replace h := g_neg c3 h
    refine go_aload_n (q := 15) dX9_leader_14 rfl rfl ?_
    refine go_get (v := .ref 31) (q := 18) dX9_leader_15 fX9_44 (wg_23 _) rfl rfl ?_
    refine go_iload_n (q := 19) dX9_leader_18 rfl rfl ?_
    obtain ⟨g4, h⟩ := g_guard h
    refine go_zald (f := s.2 27) (q := 20) dX9_leader_19 (wg_31 _) (inB_in g4) rfl ?_
    refine go_if_ne (tgt := 74) (q := 23) dX9_leader_20 (by decide) rfl (fun c5 => ?_) (fun c5 => ?_)
    · replace h := g_neg c5 h
      refine go_ls (ls2 := [some (.ref 23), some (.int x1), none]) ⟨rfl, rfl, trivial⟩ ?_
      exact b_X9_leader_74 r s x1 h
    · replace h := g_pos c5 h
      refine go_aload_n (q := 24) dX9_leader_23 rfl rfl ?_
      refine go_iload_n (q := 25) dX9_leader_24 rfl rfl ?_
      obtain ⟨r6, e7, h⟩ := g_bind h
      refine go_callV0 (q := 28) (as := [.int x1]) (rest := []) (st2 := []) (w2 := wW r6) dX9_leader_25 cX9_106 (t_X9_setsUp s x1 _ e7) (wg_23 _) rfl rfl rfl (Nat.le_of_ble_eq_true rfl) (by decide) ⟨Nat.le_refl _, Nat.le_refl _⟩ rfl rfl ?_
      refine go_aload_n (q := 29) dX9_leader_28 rfl rfl ?_
      refine go_aload_n (q := 30) dX9_leader_29 rfl rfl ?_
      refine go_get (v := .int (r6.1 24)) (q := 33) dX9_leader_30 fX9_19 (wg_23 _) rfl rfl ?_
      obtain ⟨r8, e9, h⟩ := g_bind h
      refine go_callV0 (q := 36) (as := [.int (r6.1 24)]) (rest := []) (st2 := [.int r8.1]) (w2 := wW r8.2) dX9_leader_33 cX9_113 (t_X9_searched r6 (r6.1 24) _ e9) (wg_23 _) rfl rfl rfl (Nat.le_of_ble_eq_true rfl) (by decide) ⟨Nat.le_refl _, Nat.le_refl _⟩ rfl rfl ?_
      refine go_istore_n (ls2 := [some (.ref 23), some (.int x1), some (.int r8.1)]) (q := 37) dX9_leader_36 (by decide) rfl rfl ?_
      refine go_aload_n (q := 38) dX9_leader_37 rfl rfl ?_
      refine go_get (v := .ref 30) (q := 41) dX9_leader_38 fX9_41 (wg_23 _) rfl rfl ?_
      refine go_iload_n (q := 42) dX9_leader_41 rfl rfl ?_
      refine go_iload_n (q := 43) dX9_leader_42 rfl rfl ?_
      refine go_if_ne (tgt := 50) (q := 46) dX9_leader_43 (by decide) rfl (fun c10 => ?_) (fun c10 => ?_)
      · replace h := g_neg c10 h
        refine go_iload_n (q := 51) dX9_leader_50 rfl rfl ?_
        refine go_iconst (v := 1) (q := 52) dX9_leader_51 (by decide) rfl ?_
        refine go_icmp_ne (tgt := 61) (q := 55) dX9_leader_52 (by decide) rfl (fun c11 => ?_) (fun c11 => ?_)
        · replace h := g_neg c11 h
          refine go_iconst (v := 1) (q := 62) dX9_leader_61 (by decide) rfl ?_
          refine go_iload_n (q := 63) dX9_leader_62 rfl rfl ?_
          refine go_iconst (v := 2) (q := 64) dX9_leader_63 (by decide) rfl ?_
          refine go_irem (q := 65) dX9_leader_64 (by decide) rfl ?_
          refine go_isub (q := 66) dX9_leader_65 rfl ?_
          refine go_ls (ls2 := [some (.ref 23), some (.int x1), none]) ⟨rfl, rfl, trivial⟩ ?_
          exact b_X9_leader_66 r r8.2 x1 x1 (1 - (x1 - x1 / 2 * 2)) h
        · replace h := g_pos c11 h
          refine go_iload_n (q := 56) dX9_leader_55 rfl rfl ?_
          refine go_iconst (v := 2) (q := 57) dX9_leader_56 (by decide) rfl ?_
          refine go_irem (q := 58) dX9_leader_57 (by decide) rfl ?_
          refine go_goto (tgt := 66) dX9_leader_58 (by decide) ?_
          refine go_ls (ls2 := [some (.ref 23), some (.int x1), none]) ⟨rfl, rfl, trivial⟩ ?_
          exact b_X9_leader_66 r r8.2 x1 x1 (x1 - x1 / 2 * 2) h
      · replace h := g_pos c10 h
        refine go_iconst (v := 2) (q := 47) dX9_leader_46 (by decide) rfl ?_
        refine go_goto (tgt := 66) dX9_leader_47 (by decide) ?_
        refine go_ls (ls2 := [some (.ref 23), some (.int x1), none]) ⟨rfl, rfl, trivial⟩ ?_
        exact b_X9_leader_66 r r8.2 x1 x1 2 h
  · replace h := g_pos c3 h
    refine go_iconst (v := (-1 : Int32)) (q := 13) dX9_leader_12 (by decide) rfl ?_
    cases h
    exact go_iret dX9_leader_13 rfl rfl (Nat.le_refl _) (Nat.le_refl _) ⟨rfl, rfl⟩
theorem t_X9_leader (s : gS) (x1 : Int32) (r : Int32 × gS) (h : f_X9_leader s x1 = some r) : Cal 7 mX9_leader [.ref 23, .int x1] (wW s) 0 0 (some (.int r.1)) (wW r.2) := Cal.of (by decide) (g_cats rfl) (Nat.le_of_ble_eq_true rfl) (b_X9_leader r s x1 h)
def f_X9_turn_17 : Nat → gS → Int32 → Int32 → Int32 → Option (Int32 × gS)
  | 0, _, _, _, _ => none
  | φ + 1, s, x1, x2, x3 =>
    if (s.1 23) < x3 then
      if x1 = 1 then
        some (1, s)
      else
        (f_X9_leader s (x1 - 1)).bind fun r3 =>
        if r3.1 = x2 then
          some (0, r3.2)
        else
          some (1, r3.2)
    else
      (f_X9_leader s x3).bind fun r6 =>
      if r6.1 = x2 then
        f_X9_turn_17 φ r6.2 x1 x2 (x3 + 1)
      else
        some (0, r6.2)
set_option maxHeartbeats 4000000 in
set_option maxRecDepth 100000 in
theorem b_X9_turn_17 (r : Int32 × gS) : ∀ (φ : Nat) (s : gS) (x1 : Int32) (x2 : Int32) (x3 : Int32) , f_X9_turn_17 φ s x1 x2 x3 = some r → Go gTr yX9_turn cX9_turn 4 (some .int) 8 0 0 (fun r9 w9 => r9 = some (.int r.1) ∧ w9 = wW r.2) 0 0 (wW s) 17 [some (.ref 23), some (.int x1), some (.int x2), some (.int x3)] [] := by
  intro φ
  induction φ with
  | zero =>
    intro s x1 x2 x3 h
    exact absurd h (by intro h0; cases h0)
  | succ φ ih =>
    intro s x1 x2 x3 h
    rw [f_X9_turn_17] at h
    refine go_iload_n (q := 18) dX9_turn_17 rfl rfl ?_
    refine go_aload_n (q := 19) dX9_turn_18 rfl rfl ?_
    refine go_get (v := .int (s.1 23)) (q := 22) dX9_turn_19 fX9_78 (wg_23 _) rfl rfl ?_
    refine go_icmp_gt (tgt := 42) (q := 25) dX9_turn_22 (by decide) rfl (fun c1 => ?_) (fun c1 => ?_)
    · replace h := g_pos c1 h
      refine go_iload_n (q := 43) dX9_turn_42 rfl rfl ?_
      refine go_iconst (v := 1) (q := 44) dX9_turn_43 (by decide) rfl ?_
      refine go_icmp_eq (tgt := 58) (q := 47) dX9_turn_44 (by decide) rfl (fun c2 => ?_) (fun c2 => ?_)
      · replace h := g_pos c2 h
        refine go_iconst (v := 1) (q := 59) dX9_turn_58 (by decide) rfl ?_
        refine go_goto (tgt := 63) dX9_turn_59 (by decide) ?_
        cases h
        exact go_iret dX9_turn_63 rfl rfl (Nat.le_refl _) (Nat.le_refl _) ⟨rfl, rfl⟩
      · replace h := g_neg c2 h
        refine go_aload_n (q := 48) dX9_turn_47 rfl rfl ?_
        refine go_iload_n (q := 49) dX9_turn_48 rfl rfl ?_
        refine go_iconst (v := 1) (q := 50) dX9_turn_49 (by decide) rfl ?_
        refine go_isub (q := 51) dX9_turn_50 rfl ?_
        obtain ⟨r3, e4, h⟩ := g_bind h
        refine go_callV0 (q := 54) (as := [.int (x1 - 1)]) (rest := []) (st2 := [.int r3.1]) (w2 := wW r3.2) dX9_turn_51 cX9_131 (t_X9_leader s (x1 - 1) _ e4) (wg_23 _) rfl rfl rfl (Nat.le_of_ble_eq_true rfl) (by decide) ⟨Nat.le_refl _, Nat.le_refl _⟩ rfl rfl ?_
        refine go_iload_n (q := 55) dX9_turn_54 rfl rfl ?_
        refine go_icmp_eq (tgt := 62) (q := 58) dX9_turn_55 (by decide) rfl (fun c5 => ?_) (fun c5 => ?_)
        · replace h := g_pos c5 h
          refine go_iconst (v := 0) (q := 63) dX9_turn_62 (by decide) rfl ?_
          cases h
          exact go_iret dX9_turn_63 rfl rfl (Nat.le_refl _) (Nat.le_refl _) ⟨rfl, rfl⟩
        · replace h := g_neg c5 h
          refine go_iconst (v := 1) (q := 59) dX9_turn_58 (by decide) rfl ?_
          refine go_goto (tgt := 63) dX9_turn_59 (by decide) ?_
          cases h
          exact go_iret dX9_turn_63 rfl rfl (Nat.le_refl _) (Nat.le_refl _) ⟨rfl, rfl⟩
    · replace h := g_neg c1 h
      refine go_aload_n (q := 26) dX9_turn_25 rfl rfl ?_
      refine go_iload_n (q := 27) dX9_turn_26 rfl rfl ?_
      obtain ⟨r6, e7, h⟩ := g_bind h
      refine go_callV0 (q := 30) (as := [.int x3]) (rest := []) (st2 := [.int r6.1]) (w2 := wW r6.2) dX9_turn_27 cX9_131 (t_X9_leader s x3 _ e7) (wg_23 _) rfl rfl rfl (Nat.le_of_ble_eq_true rfl) (by decide) ⟨Nat.le_refl _, Nat.le_refl _⟩ rfl rfl ?_
      refine go_iload_n (q := 31) dX9_turn_30 rfl rfl ?_
      refine go_icmp_eq (tgt := 36) (q := 34) dX9_turn_31 (by decide) rfl (fun c8 => ?_) (fun c8 => ?_)
      · replace h := g_pos c8 h
        refine go_iinc (v := x3 + 1) (ls2 := [some (.ref 23), some (.int x1), some (.int x2), some (.int (x3 + 1))]) (q := 39) dX9_turn_36 (by decide) rfl rfl rfl rfl ?_
        refine go_goto (tgt := 17) dX9_turn_39 (by decide) ?_
        refine go_ls (ls2 := [some (.ref 23), some (.int x1), some (.int x2), some (.int (x3 + 1))]) ⟨rfl, rfl, rfl, rfl, trivial⟩ ?_
        exact ih r6.2 x1 x2 (x3 + 1) h
      · replace h := g_neg c8 h
        refine go_iconst (v := 0) (q := 35) dX9_turn_34 (by decide) rfl ?_
        cases h
        exact go_iret dX9_turn_35 rfl rfl (Nat.le_refl _) (Nat.le_refl _) ⟨rfl, rfl⟩
def f_X9_turn (s : gS) (x1 : Int32) : Option (Int32 × gS) :=
  (f_X9_leader s x1).bind fun r1 =>
  if r1.1 = 2 then
    some (0, r1.2)
  else
    f_X9_turn_17 gφ r1.2 x1 r1.1 (x1 + 1)
set_option maxHeartbeats 4000000 in
set_option maxRecDepth 100000 in
theorem b_X9_turn (r : Int32 × gS) : ∀ (s : gS) (x1 : Int32) , f_X9_turn s x1 = some r → Go gTr yX9_turn cX9_turn 4 (some .int) 8 0 0 (fun r9 w9 => r9 = some (.int r.1) ∧ w9 = wW r.2) 0 0 (wW s) 0 [some (.ref 23), some (.int x1), none, none] [] := by
  intro s x1 h
  rw [f_X9_turn] at h
  refine go_aload_n (q := 1) dX9_turn_0 rfl rfl ?_
  refine go_iload_n (q := 2) dX9_turn_1 rfl rfl ?_
  obtain ⟨r1, e2, h⟩ := g_bind h
  refine go_callV0 (q := 5) (as := [.int x1]) (rest := []) (st2 := [.int r1.1]) (w2 := wW r1.2) dX9_turn_2 cX9_131 (t_X9_leader s x1 _ e2) (wg_23 _) rfl rfl rfl (Nat.le_of_ble_eq_true rfl) (by decide) ⟨Nat.le_refl _, Nat.le_refl _⟩ rfl rfl ?_
  refine go_istore_n (ls2 := [some (.ref 23), some (.int x1), some (.int r1.1), none]) (q := 6) dX9_turn_5 (by decide) rfl rfl ?_
  refine go_iload_n (q := 7) dX9_turn_6 rfl rfl ?_
  refine go_iconst (v := 2) (q := 8) dX9_turn_7 (by decide) rfl ?_
  refine go_icmp_ne (tgt := 13) (q := 11) dX9_turn_8 (by decide) rfl (fun c3 => ?_) (fun c3 => ?_)
  · replace h := g_neg c3 h
    refine go_iload_n (q := 14) dX9_turn_13 rfl rfl ?_
    refine go_iconst (v := 1) (q := 15) dX9_turn_14 (by decide) rfl ?_
    refine go_iadd (q := 16) dX9_turn_15 rfl ?_
    refine go_istore_n (ls2 := [some (.ref 23), some (.int x1), some (.int r1.1), some (.int (x1 + 1))]) (q := 17) dX9_turn_16 (by decide) rfl rfl ?_
    refine go_ls (ls2 := [some (.ref 23), some (.int x1), some (.int r1.1), some (.int (x1 + 1))]) ⟨rfl, rfl, rfl, rfl, trivial⟩ ?_
    exact b_X9_turn_17 r gφ r1.2 x1 r1.1 (x1 + 1) h
  · replace h := g_pos c3 h
    refine go_iconst (v := 0) (q := 12) dX9_turn_11 (by decide) rfl ?_
    cases h
    exact go_iret dX9_turn_12 rfl rfl (Nat.le_refl _) (Nat.le_refl _) ⟨rfl, rfl⟩
theorem t_X9_turn (s : gS) (x1 : Int32) (r : Int32 × gS) (h : f_X9_turn s x1 = some r) : Cal 8 mX9_turn [.ref 23, .int x1] (wW s) 0 0 (some (.int r.1)) (wW r.2) := Cal.of (by decide) (g_cats rfl) (Nat.le_of_ble_eq_true rfl) (b_X9_turn r s x1 h)
def f_X9_winsBy (s : gS) (x1 : Int32) (x2 : Int32) : Option Int32 :=
  if (s.1 26) = 0 then
    (f_X9_isMove s x1).bind fun r2 =>
    if r2 = 0 then
      some 0
    else
      (f_X9_makesRow s x1 x2).bind fun r5 =>
      if isZ r5 = true then
        some r5
      else none
  else
    some 0
set_option maxHeartbeats 4000000 in
set_option maxRecDepth 100000 in
theorem b_X9_winsBy (s : gS) (r : Int32) : ∀ (x1 : Int32) (x2 : Int32) , f_X9_winsBy s x1 x2 = some r → Go gTr yX9_winsBy cX9_winsBy 3 (some .boolean) 5 0 0 (fun r9 w9 => r9 = some (.int r) ∧ w9 = wW s) 0 0 (wW s) 0 [some (.ref 23), some (.int x1), some (.int x2)] [] := by
  intro x1 x2 h
  rw [f_X9_winsBy] at h
  refine go_aload_n (q := 1) dX9_winsBy_0 rfl rfl ?_
  refine go_get (v := .int (s.1 26)) (q := 4) dX9_winsBy_1 fX9_75 (wg_23 _) rfl rfl ?_
  refine go_if_ne (tgt := 15) (q := 7) dX9_winsBy_4 (by decide) rfl (fun c1 => ?_) (fun c1 => ?_)
  · replace h := g_neg c1 h
    refine go_iconst (v := 0) (q := 16) dX9_winsBy_15 (by decide) rfl ?_
    cases h
    exact go_iret dX9_winsBy_16 rfl rfl (Nat.le_refl _) (Nat.le_refl _) ⟨rfl, rfl⟩
  · replace h := g_pos c1 h
    refine go_aload_n (q := 8) dX9_winsBy_7 rfl rfl ?_
    refine go_iload_n (q := 9) dX9_winsBy_8 rfl rfl ?_
    obtain ⟨r2, e3, h⟩ := g_bind h
    refine go_callV0 (q := 12) (as := [.int x1]) (rest := []) (st2 := [.int r2]) (w2 := wW s) dX9_winsBy_9 cX9_109 (t_X9_isMove s x1 _ e3) (wg_23 _) rfl rfl rfl (Nat.le_of_ble_eq_true rfl) (by decide) ⟨Nat.le_refl _, Nat.le_refl _⟩ rfl rfl ?_
    refine go_if_ne (tgt := 17) (q := 15) dX9_winsBy_12 (by decide) rfl (fun c4 => ?_) (fun c4 => ?_)
    · replace h := g_neg c4 h
      refine go_aload_n (q := 18) dX9_winsBy_17 rfl rfl ?_
      refine go_iload_n (q := 19) dX9_winsBy_18 rfl rfl ?_
      refine go_iload_n (q := 20) dX9_winsBy_19 rfl rfl ?_
      obtain ⟨r5, e6, h⟩ := g_bind h
      refine go_callV0 (q := 23) (as := [.int x1, .int x2]) (rest := []) (st2 := [.int r5]) (w2 := wW s) dX9_winsBy_20 cX9_95 (t_X9_makesRow s x1 x2 _ e6) (wg_23 _) rfl rfl rfl (Nat.le_of_ble_eq_true rfl) (by decide) ⟨Nat.le_refl _, Nat.le_refl _⟩ rfl rfl ?_
      obtain ⟨g7, h⟩ := g_guard h
      cases h
      exact go_iret dX9_winsBy_23 rfl (isZ_nar g7) (Nat.le_refl _) (Nat.le_refl _) ⟨rfl, rfl⟩
    · replace h := g_pos c4 h
      refine go_iconst (v := 0) (q := 16) dX9_winsBy_15 (by decide) rfl ?_
      cases h
      exact go_iret dX9_winsBy_16 rfl rfl (Nat.le_refl _) (Nat.le_refl _) ⟨rfl, rfl⟩
theorem t_X9_winsBy (s : gS) (x1 : Int32) (x2 : Int32) (r : Int32) (h : f_X9_winsBy s x1 x2 = some r) : Cal 5 mX9_winsBy [.ref 23, .int x1, .int x2] (wW s) 0 0 (some (.int r)) (wW s) := Cal.of (by decide) (g_cats rfl) (Nat.le_of_ble_eq_true rfl) (b_X9_winsBy s r x1 x2 h)
def f_X9_wins_32 (K4 : gS → Int32 → Int32 → Int32 → Option Int32) (s : gS) (x1 : Int32) (x3 : Int32) (t0 : Int32) (t1 : Int32) : Option Int32 :=
  K4 s x1 (t0 + t1) (x3 + 1)
set_option maxHeartbeats 4000000 in
set_option maxRecDepth 100000 in
theorem b_X9_wins_32 (K4 : gS → Int32 → Int32 → Int32 → Option Int32) (s : gS) (r : Int32) (hK4 : ∀ (x1 : Int32) (x2 : Int32) (x3 : Int32) , K4 s x1 x2 x3 = some r → Go gTr yX9_wins cX9_wins 4 (some .int) 6 0 0 (fun r9 w9 => r9 = some (.int r) ∧ w9 = wW s) 0 0 (wW s) 4 [some (.ref 23), some (.int x1), some (.int x2), some (.int x3)] []) : ∀ (x1 : Int32) (x3 : Int32) (t0 : Int32) (t1 : Int32) , f_X9_wins_32 K4 s x1 x3 t0 t1 = some r → Go gTr yX9_wins cX9_wins 4 (some .int) 6 0 0 (fun r9 w9 => r9 = some (.int r) ∧ w9 = wW s) 0 0 (wW s) 32 [some (.ref 23), some (.int x1), none, some (.int x3)] [.int t1, .int t0] := by
  intro x1 x3 t0 t1 h
  rw [f_X9_wins_32] at h
  refine go_iadd (q := 33) dX9_wins_32 rfl ?_
  refine go_istore_n (ls2 := [some (.ref 23), some (.int x1), some (.int (t0 + t1)), some (.int x3)]) (q := 34) dX9_wins_33 (by decide) rfl rfl ?_
  refine go_iinc (v := x3 + 1) (ls2 := [some (.ref 23), some (.int x1), some (.int (t0 + t1)), some (.int (x3 + 1))]) (q := 37) dX9_wins_34 (by decide) rfl rfl rfl rfl ?_
  refine go_goto (tgt := 4) dX9_wins_37 (by decide) ?_
  refine go_ls (ls2 := [some (.ref 23), some (.int x1), some (.int (t0 + t1)), some (.int (x3 + 1))]) ⟨rfl, rfl, rfl, rfl, trivial⟩ ?_
  exact hK4 x1 (t0 + t1) (x3 + 1) h
def f_X9_wins_4 : Nat → gS → Int32 → Int32 → Int32 → Option Int32
  | 0, _, _, _, _ => none
  | φ + 1, s, x1, x2, x3 =>
    if ((s.1 20) * (s.1 21)) ≤ x3 then
      some x2
    else
      (f_X9_winsBy s x3 x1).bind fun r2 =>
      if r2 = 0 then
        f_X9_wins_32 (f_X9_wins_4 φ) s x1 x3 x2 0
      else
        f_X9_wins_32 (f_X9_wins_4 φ) s x1 x3 x2 1
set_option maxHeartbeats 4000000 in
set_option maxRecDepth 100000 in
theorem b_X9_wins_4 (s : gS) (r : Int32) : ∀ (φ : Nat) (x1 : Int32) (x2 : Int32) (x3 : Int32) , f_X9_wins_4 φ s x1 x2 x3 = some r → Go gTr yX9_wins cX9_wins 4 (some .int) 6 0 0 (fun r9 w9 => r9 = some (.int r) ∧ w9 = wW s) 0 0 (wW s) 4 [some (.ref 23), some (.int x1), some (.int x2), some (.int x3)] [] := by
  intro φ
  induction φ with
  | zero =>
    intro x1 x2 x3 h
    exact absurd h (by intro h0; cases h0)
  | succ φ ih =>
    intro x1 x2 x3 h
    rw [f_X9_wins_4] at h
    refine go_iload_n (q := 5) dX9_wins_4 rfl rfl ?_
    refine go_aload_n (q := 6) dX9_wins_5 rfl rfl ?_
    refine go_get (v := .int (s.1 20)) (q := 9) dX9_wins_6 fX9_7 (wg_23 _) rfl rfl ?_
    refine go_aload_n (q := 10) dX9_wins_9 rfl rfl ?_
    refine go_get (v := .int (s.1 21)) (q := 13) dX9_wins_10 fX9_13 (wg_23 _) rfl rfl ?_
    refine go_imul (q := 14) dX9_wins_13 rfl ?_
    refine go_icmp_ge (tgt := 40) (q := 17) dX9_wins_14 (by decide) rfl (fun c1 => ?_) (fun c1 => ?_)
    · replace h := g_pos c1 h
      refine go_iload_n (q := 41) dX9_wins_40 rfl rfl ?_
      cases h
      exact go_iret dX9_wins_41 rfl rfl (Nat.le_refl _) (Nat.le_refl _) ⟨rfl, rfl⟩
    · replace h := g_neg c1 h
      refine go_iload_n (q := 18) dX9_wins_17 rfl rfl ?_
      refine go_aload_n (q := 19) dX9_wins_18 rfl rfl ?_
      refine go_iload_n (q := 20) dX9_wins_19 rfl rfl ?_
      refine go_iload_n (q := 21) dX9_wins_20 rfl rfl ?_
      obtain ⟨r2, e3, h⟩ := g_bind h
      refine go_callV0 (q := 24) (as := [.int x3, .int x1]) (rest := [.int x2]) (st2 := [.int r2, .int x2]) (w2 := wW s) dX9_wins_21 cX9_121 (t_X9_winsBy s x3 x1 _ e3) (wg_23 _) rfl rfl rfl (Nat.le_of_ble_eq_true rfl) (by decide) ⟨Nat.le_refl _, Nat.le_refl _⟩ rfl rfl ?_
      refine go_if_eq (tgt := 31) (q := 27) dX9_wins_24 (by decide) rfl (fun c4 => ?_) (fun c4 => ?_)
      · replace h := g_pos c4 h
        refine go_iconst (v := 0) (q := 32) dX9_wins_31 (by decide) rfl ?_
        refine go_ls (ls2 := [some (.ref 23), some (.int x1), none, some (.int x3)]) ⟨rfl, rfl, rfl, trivial⟩ ?_
        exact b_X9_wins_32 (f_X9_wins_4 φ) s r (fun x1 x2 x3 h => ih x1 x2 x3 h) x1 x3 x2 0 h
      · replace h := g_neg c4 h
        refine go_iconst (v := 1) (q := 28) dX9_wins_27 (by decide) rfl ?_
        refine go_goto (tgt := 32) dX9_wins_28 (by decide) ?_
        refine go_ls (ls2 := [some (.ref 23), some (.int x1), none, some (.int x3)]) ⟨rfl, rfl, rfl, trivial⟩ ?_
        exact b_X9_wins_32 (f_X9_wins_4 φ) s r (fun x1 x2 x3 h => ih x1 x2 x3 h) x1 x3 x2 1 h
def f_X9_wins (s : gS) (x1 : Int32) : Option Int32 :=
  f_X9_wins_4 gφ s x1 0 0
set_option maxHeartbeats 4000000 in
set_option maxRecDepth 100000 in
theorem b_X9_wins (s : gS) (r : Int32) : ∀ (x1 : Int32) , f_X9_wins s x1 = some r → Go gTr yX9_wins cX9_wins 4 (some .int) 6 0 0 (fun r9 w9 => r9 = some (.int r) ∧ w9 = wW s) 0 0 (wW s) 0 [some (.ref 23), some (.int x1), none, none] [] := by
  intro x1 h
  rw [f_X9_wins] at h
  refine go_iconst (v := 0) (q := 1) dX9_wins_0 (by decide) rfl ?_
  refine go_istore_n (ls2 := [some (.ref 23), some (.int x1), some (.int 0), none]) (q := 2) dX9_wins_1 (by decide) rfl rfl ?_
  refine go_iconst (v := 0) (q := 3) dX9_wins_2 (by decide) rfl ?_
  refine go_istore_n (ls2 := [some (.ref 23), some (.int x1), some (.int 0), some (.int 0)]) (q := 4) dX9_wins_3 (by decide) rfl rfl ?_
  refine go_ls (ls2 := [some (.ref 23), some (.int x1), some (.int 0), some (.int 0)]) ⟨rfl, rfl, rfl, rfl, trivial⟩ ?_
  exact b_X9_wins_4 s r gφ x1 0 0 h
theorem t_X9_wins (s : gS) (x1 : Int32) (r : Int32) (h : f_X9_wins s x1 = some r) : Cal 6 mX9_wins [.ref 23, .int x1] (wW s) 0 0 (some (.int r)) (wW s) := Cal.of (by decide) (g_cats rfl) (Nat.le_of_ble_eq_true rfl) (b_X9_wins s r x1 h)
def f_X9_missed (s : gS) (x1 : Int32) : Option (Int32 × gS) :=
  (f_X9_setsUp s (x1 - 1)).bind fun r1 =>
  if inB (x1 - 1) 16 = true then
    (f_X9_winsBy r1 (r1.2 20 (x1 - 1).toNatClampNeg) ((x1 - 1) - (x1 - 1) / 2 * 2)).bind fun r4 =>
    if r4 = 0 then
      (f_X9_wins r1 ((x1 - 1) - (x1 - 1) / 2 * 2)).bind fun r7 =>
      some (r7, r1)
    else
      some (0, r1)
  else none
set_option maxHeartbeats 4000000 in
set_option maxRecDepth 100000 in
theorem b_X9_missed (r : Int32 × gS) : ∀ (s : gS) (x1 : Int32) , f_X9_missed s x1 = some r → Go gTr yX9_missed cX9_missed 3 (some .int) 7 0 0 (fun r9 w9 => r9 = some (.int r.1) ∧ w9 = wW r.2) 0 0 (wW s) 0 [some (.ref 23), some (.int x1), none] [] := by
  intro s x1 h
  rw [f_X9_missed] at h
  refine go_aload_n (q := 1) dX9_missed_0 rfl rfl ?_
  refine go_iload_n (q := 2) dX9_missed_1 rfl rfl ?_
  refine go_iconst (v := 1) (q := 3) dX9_missed_2 (by decide) rfl ?_
  refine go_isub (q := 4) dX9_missed_3 rfl ?_
  obtain ⟨r1, e2, h⟩ := g_bind h
  refine go_callV0 (q := 7) (as := [.int (x1 - 1)]) (rest := []) (st2 := []) (w2 := wW r1) dX9_missed_4 cX9_106 (t_X9_setsUp s (x1 - 1) _ e2) (wg_23 _) rfl rfl rfl (Nat.le_of_ble_eq_true rfl) (by decide) ⟨Nat.le_refl _, Nat.le_refl _⟩ rfl rfl ?_
  refine go_iload_n (q := 8) dX9_missed_7 rfl rfl ?_
  refine go_iconst (v := 1) (q := 9) dX9_missed_8 (by decide) rfl ?_
  refine go_isub (q := 10) dX9_missed_9 rfl ?_
  refine go_iconst (v := 2) (q := 11) dX9_missed_10 (by decide) rfl ?_
  refine go_irem (q := 12) dX9_missed_11 (by decide) rfl ?_
  refine go_istore_n (ls2 := [some (.ref 23), some (.int x1), some (.int ((x1 - 1) - (x1 - 1) / 2 * 2))]) (q := 13) dX9_missed_12 (by decide) rfl rfl ?_
  refine go_aload_n (q := 14) dX9_missed_13 rfl rfl ?_
  refine go_aload_n (q := 15) dX9_missed_14 rfl rfl ?_
  refine go_get (v := .ref 24) (q := 18) dX9_missed_15 fX9_22 (wg_23 _) rfl rfl ?_
  refine go_iload_n (q := 19) dX9_missed_18 rfl rfl ?_
  refine go_iconst (v := 1) (q := 20) dX9_missed_19 (by decide) rfl ?_
  refine go_isub (q := 21) dX9_missed_20 rfl ?_
  obtain ⟨g3, h⟩ := g_guard h
  refine go_iald (f := r1.2 20) (q := 22) dX9_missed_21 (wg_24 _) (inB_in g3) rfl ?_
  refine go_iload_n (q := 23) dX9_missed_22 rfl rfl ?_
  obtain ⟨r4, e5, h⟩ := g_bind h
  refine go_callV0 (q := 26) (as := [.int (r1.2 20 (x1 - 1).toNatClampNeg), .int ((x1 - 1) - (x1 - 1) / 2 * 2)]) (rest := []) (st2 := [.int r4]) (w2 := wW r1) dX9_missed_23 cX9_121 (t_X9_winsBy r1 (r1.2 20 (x1 - 1).toNatClampNeg) ((x1 - 1) - (x1 - 1) / 2 * 2) _ e5) (wg_23 _) rfl rfl rfl (Nat.le_of_ble_eq_true rfl) (by decide) ⟨Nat.le_refl _, Nat.le_refl _⟩ rfl rfl ?_
  refine go_if_eq (tgt := 33) (q := 29) dX9_missed_26 (by decide) rfl (fun c6 => ?_) (fun c6 => ?_)
  · replace h := g_pos c6 h
    refine go_aload_n (q := 34) dX9_missed_33 rfl rfl ?_
    refine go_iload_n (q := 35) dX9_missed_34 rfl rfl ?_
    obtain ⟨r7, e8, h⟩ := g_bind h
    refine go_callV0 (q := 38) (as := [.int ((x1 - 1) - (x1 - 1) / 2 * 2)]) (rest := []) (st2 := [.int r7]) (w2 := wW r1) dX9_missed_35 cX9_124 (t_X9_wins r1 ((x1 - 1) - (x1 - 1) / 2 * 2) _ e8) (wg_23 _) rfl rfl rfl (Nat.le_of_ble_eq_true rfl) (by decide) ⟨Nat.le_refl _, Nat.le_refl _⟩ rfl rfl ?_
    cases h
    exact go_iret dX9_missed_38 rfl rfl (Nat.le_refl _) (Nat.le_refl _) ⟨rfl, rfl⟩
  · replace h := g_neg c6 h
    refine go_iconst (v := 0) (q := 30) dX9_missed_29 (by decide) rfl ?_
    refine go_goto (tgt := 38) dX9_missed_30 (by decide) ?_
    cases h
    exact go_iret dX9_missed_38 rfl rfl (Nat.le_refl _) (Nat.le_refl _) ⟨rfl, rfl⟩
theorem t_X9_missed (s : gS) (x1 : Int32) (r : Int32 × gS) (h : f_X9_missed s x1 = some r) : Cal 7 mX9_missed [.ref 23, .int x1] (wW s) 0 0 (some (.int r.1)) (wW r.2) := Cal.of (by decide) (g_cats rfl) (Nat.le_of_ble_eq_true rfl) (b_X9_missed r s x1 h)
def f_X9_slip (s : gS) (x1 : Int32) : Option (Int32 × gS) :=
  (f_X9_value s (x1 - 1) (s.1 24)).bind fun r1 =>
  if inB (x1 - 1) 16 = true then
    (f_X9_behind r1.2 (x1 - 1) (r1.2.2 20 (x1 - 1).toNatClampNeg) ((r1.2.1 24) - 1)).bind fun r4 =>
    some (r1.1 - r4.1, r4.2)
  else none
set_option maxHeartbeats 4000000 in
set_option maxRecDepth 100000 in
theorem b_X9_slip (r : Int32 × gS) : ∀ (s : gS) (x1 : Int32) , f_X9_slip s x1 = some r → Go gTr yX9_slip cX9_slip 3 (some .int) 8 0 0 (fun r9 w9 => r9 = some (.int r.1) ∧ w9 = wW r.2) 0 0 (wW s) 0 [some (.ref 23), some (.int x1), none] [] := by
  intro s x1 h
  rw [f_X9_slip] at h
  refine go_aload_n (q := 1) dX9_slip_0 rfl rfl ?_
  refine go_iload_n (q := 2) dX9_slip_1 rfl rfl ?_
  refine go_iconst (v := 1) (q := 3) dX9_slip_2 (by decide) rfl ?_
  refine go_isub (q := 4) dX9_slip_3 rfl ?_
  refine go_aload_n (q := 5) dX9_slip_4 rfl rfl ?_
  refine go_get (v := .int (s.1 24)) (q := 8) dX9_slip_5 fX9_19 (wg_23 _) rfl rfl ?_
  obtain ⟨r1, e2, h⟩ := g_bind h
  refine go_callV0 (q := 11) (as := [.int (x1 - 1), .int (s.1 24)]) (rest := []) (st2 := [.int r1.1]) (w2 := wW r1.2) dX9_slip_8 cX9_127 (t_X9_value s (x1 - 1) (s.1 24) _ e2) (wg_23 _) rfl rfl rfl (Nat.le_of_ble_eq_true rfl) (by decide) ⟨Nat.le_refl _, Nat.le_refl _⟩ rfl rfl ?_
  refine go_istore_n (ls2 := [some (.ref 23), some (.int x1), some (.int r1.1)]) (q := 12) dX9_slip_11 (by decide) rfl rfl ?_
  refine go_iload_n (q := 13) dX9_slip_12 rfl rfl ?_
  refine go_aload_n (q := 14) dX9_slip_13 rfl rfl ?_
  refine go_iload_n (q := 15) dX9_slip_14 rfl rfl ?_
  refine go_iconst (v := 1) (q := 16) dX9_slip_15 (by decide) rfl ?_
  refine go_isub (q := 17) dX9_slip_16 rfl ?_
  refine go_aload_n (q := 18) dX9_slip_17 rfl rfl ?_
  refine go_get (v := .ref 24) (q := 21) dX9_slip_18 fX9_22 (wg_23 _) rfl rfl ?_
  refine go_iload_n (q := 22) dX9_slip_21 rfl rfl ?_
  refine go_iconst (v := 1) (q := 23) dX9_slip_22 (by decide) rfl ?_
  refine go_isub (q := 24) dX9_slip_23 rfl ?_
  obtain ⟨g3, h⟩ := g_guard h
  refine go_iald (f := r1.2.2 20) (q := 25) dX9_slip_24 (wg_24 _) (inB_in g3) rfl ?_
  refine go_aload_n (q := 26) dX9_slip_25 rfl rfl ?_
  refine go_get (v := .int (r1.2.1 24)) (q := 29) dX9_slip_26 fX9_19 (wg_23 _) rfl rfl ?_
  refine go_iconst (v := 1) (q := 30) dX9_slip_29 (by decide) rfl ?_
  refine go_isub (q := 31) dX9_slip_30 rfl ?_
  obtain ⟨r4, e5, h⟩ := g_bind h
  refine go_callV0 (q := 34) (as := [.int (x1 - 1), .int (r1.2.2 20 (x1 - 1).toNatClampNeg), .int ((r1.2.1 24) - 1)]) (rest := [.int r1.1]) (st2 := [.int r4.1, .int r1.1]) (w2 := wW r4.2) dX9_slip_31 cX9_117 (t_X9_behind r1.2 (x1 - 1) (r1.2.2 20 (x1 - 1).toNatClampNeg) ((r1.2.1 24) - 1) _ e5) (wg_23 _) rfl rfl rfl (Nat.le_of_ble_eq_true rfl) (by decide) ⟨Nat.le_refl _, Nat.le_refl _⟩ rfl rfl ?_
  refine go_isub (q := 35) dX9_slip_34 rfl ?_
  cases h
  exact go_iret dX9_slip_35 rfl rfl (Nat.le_refl _) (Nat.le_refl _) ⟨rfl, rfl⟩
theorem t_X9_slip (s : gS) (x1 : Int32) (r : Int32 × gS) (h : f_X9_slip s x1 = some r) : Cal 8 mX9_slip [.ref 23, .int x1] (wW s) 0 0 (some (.int r.1)) (wW r.2) := Cal.of (by decide) (g_cats rfl) (Nat.le_of_ble_eq_true rfl) (b_X9_slip r s x1 h)
def f_X9_forced_64 (K7 : gS → Int32 → Int32 → Int32 → Int32 → Option (Int32 × gS)) (s : gS) (x1 : Int32) (x2 : Int32) (x4 : Int32) (t0 : Int32) (t1 : Int32) : Option (Int32 × gS) :=
  K7 s x1 x2 (t0 + t1) (x4 + 1)
set_option maxHeartbeats 4000000 in
set_option maxRecDepth 100000 in
theorem b_X9_forced_64 (K7 : gS → Int32 → Int32 → Int32 → Int32 → Option (Int32 × gS)) (r : Int32 × gS) (hK7 : ∀ (s : gS) (x1 : Int32) (x2 : Int32) (x3 : Int32) (x4 : Int32) , K7 s x1 x2 x3 x4 = some r → Go gTr yX9_forced cX9_forced 6 (some .int) 8 0 0 (fun r9 w9 => r9 = some (.int r.1) ∧ w9 = wW r.2) 0 0 (wW s) 7 [some (.ref 23), some (.int x1), some (.int x2), some (.int x3), some (.int x4), none] []) : ∀ (s : gS) (x1 : Int32) (x2 : Int32) (x4 : Int32) (t0 : Int32) (t1 : Int32) , f_X9_forced_64 K7 s x1 x2 x4 t0 t1 = some r → Go gTr yX9_forced cX9_forced 6 (some .int) 8 0 0 (fun r9 w9 => r9 = some (.int r.1) ∧ w9 = wW r.2) 0 0 (wW s) 64 [some (.ref 23), some (.int x1), some (.int x2), none, some (.int x4), none] [.int t1, .int t0] := by
  intro s x1 x2 x4 t0 t1 h
  rw [f_X9_forced_64] at h
  refine go_iadd (q := 65) dX9_forced_64 rfl ?_
  refine go_istore_n (ls2 := [some (.ref 23), some (.int x1), some (.int x2), some (.int (t0 + t1)), some (.int x4), none]) (q := 66) dX9_forced_65 (by decide) rfl rfl ?_
  refine go_iinc (v := x4 + 1) (ls2 := [some (.ref 23), some (.int x1), some (.int x2), some (.int (t0 + t1)), some (.int (x4 + 1)), none]) (q := 69) dX9_forced_66 (by decide) rfl rfl rfl rfl ?_
  refine go_goto (tgt := 7) dX9_forced_69 (by decide) ?_
  refine go_ls (ls2 := [some (.ref 23), some (.int x1), some (.int x2), some (.int (t0 + t1)), some (.int (x4 + 1)), none]) ⟨rfl, rfl, rfl, rfl, rfl, trivial⟩ ?_
  exact hK7 s x1 x2 (t0 + t1) (x4 + 1) h
def f_X9_forced_51 (K7 : gS → Int32 → Int32 → Int32 → Int32 → Option (Int32 × gS)) (s : gS) (x1 : Int32) (x3 : Int32) (x4 : Int32) (x5 : Int32) (t0 : Int32) (t1 : Int32) : Option (Int32 × gS) :=
  if x5 < 0 then
    f_X9_forced_64 K7 s x1 (t0 + t1) x4 x3 0
  else
    f_X9_forced_64 K7 s x1 (t0 + t1) x4 x3 1
set_option maxHeartbeats 4000000 in
set_option maxRecDepth 100000 in
theorem b_X9_forced_51 (K7 : gS → Int32 → Int32 → Int32 → Int32 → Option (Int32 × gS)) (r : Int32 × gS) (hK7 : ∀ (s : gS) (x1 : Int32) (x2 : Int32) (x3 : Int32) (x4 : Int32) , K7 s x1 x2 x3 x4 = some r → Go gTr yX9_forced cX9_forced 6 (some .int) 8 0 0 (fun r9 w9 => r9 = some (.int r.1) ∧ w9 = wW r.2) 0 0 (wW s) 7 [some (.ref 23), some (.int x1), some (.int x2), some (.int x3), some (.int x4), none] []) : ∀ (s : gS) (x1 : Int32) (x3 : Int32) (x4 : Int32) (x5 : Int32) (t0 : Int32) (t1 : Int32) , f_X9_forced_51 K7 s x1 x3 x4 x5 t0 t1 = some r → Go gTr yX9_forced cX9_forced 6 (some .int) 8 0 0 (fun r9 w9 => r9 = some (.int r.1) ∧ w9 = wW r.2) 0 0 (wW s) 51 [some (.ref 23), some (.int x1), none, some (.int x3), some (.int x4), some (.int x5)] [.int t1, .int t0] := by
  intro s x1 x3 x4 x5 t0 t1 h
  rw [f_X9_forced_51] at h
  refine go_iadd (q := 52) dX9_forced_51 rfl ?_
  refine go_istore_n (ls2 := [some (.ref 23), some (.int x1), some (.int (t0 + t1)), some (.int x3), some (.int x4), some (.int x5)]) (q := 53) dX9_forced_52 (by decide) rfl rfl ?_
  refine go_iload_n (q := 54) dX9_forced_53 rfl rfl ?_
  refine go_iload (q := 56) dX9_forced_54 rfl rfl ?_
  refine go_if_lt (tgt := 63) (q := 59) dX9_forced_56 (by decide) rfl (fun c1 => ?_) (fun c1 => ?_)
  · replace h := g_pos c1 h
    refine go_iconst (v := 0) (q := 64) dX9_forced_63 (by decide) rfl ?_
    refine go_ls (ls2 := [some (.ref 23), some (.int x1), some (.int (t0 + t1)), none, some (.int x4), none]) ⟨rfl, rfl, rfl, rfl, trivial⟩ ?_
    exact b_X9_forced_64 K7 r hK7 s x1 (t0 + t1) x4 x3 0 h
  · replace h := g_neg c1 h
    refine go_iconst (v := 1) (q := 60) dX9_forced_59 (by decide) rfl ?_
    refine go_goto (tgt := 64) dX9_forced_60 (by decide) ?_
    refine go_ls (ls2 := [some (.ref 23), some (.int x1), some (.int (t0 + t1)), none, some (.int x4), none]) ⟨rfl, rfl, rfl, rfl, trivial⟩ ?_
    exact b_X9_forced_64 K7 r hK7 s x1 (t0 + t1) x4 x3 1 h
def f_X9_forced_7 : Nat → gS → Int32 → Int32 → Int32 → Int32 → Option (Int32 × gS)
  | 0, _, _, _, _, _ => none
  | φ + 1, s, x1, x2, x3, x4 =>
    if ((s.1 20) * (s.1 21)) ≤ x4 then
      if x2 < 2 then
        some (0, s)
      else
        if x3 = 1 then
          if inB (x1 - 1) 16 = true then
            (f_X9_behind s (x1 - 1) (s.2 20 (x1 - 1).toNatClampNeg) ((s.1 24) - 1)).bind fun r5 =>
            if r5.1 < 0 then
              some (0, r5.2)
            else
              some (1, r5.2)
          else none
        else
          some (0, s)
    else
      (f_X9_behind s (x1 - 1) x4 ((s.1 24) - 1)).bind fun r8 =>
      if r8.1 = (-3 : Int32) then
        f_X9_forced_51 (f_X9_forced_7 φ) r8.2 x1 x3 x4 r8.1 x2 0
      else
        f_X9_forced_51 (f_X9_forced_7 φ) r8.2 x1 x3 x4 r8.1 x2 1
set_option maxHeartbeats 4000000 in
set_option maxRecDepth 100000 in
theorem b_X9_forced_7 (r : Int32 × gS) : ∀ (φ : Nat) (s : gS) (x1 : Int32) (x2 : Int32) (x3 : Int32) (x4 : Int32) , f_X9_forced_7 φ s x1 x2 x3 x4 = some r → Go gTr yX9_forced cX9_forced 6 (some .int) 8 0 0 (fun r9 w9 => r9 = some (.int r.1) ∧ w9 = wW r.2) 0 0 (wW s) 7 [some (.ref 23), some (.int x1), some (.int x2), some (.int x3), some (.int x4), none] [] := by
  intro φ
  induction φ with
  | zero =>
    intro s x1 x2 x3 x4 h
    exact absurd h (by intro h0; cases h0)
  | succ φ ih =>
    intro s x1 x2 x3 x4 h
    rw [f_X9_forced_7] at h
    refine go_iload (q := 9) dX9_forced_7 rfl rfl ?_
    refine go_aload_n (q := 10) dX9_forced_9 rfl rfl ?_
    refine go_get (v := .int (s.1 20)) (q := 13) dX9_forced_10 fX9_7 (wg_23 _) rfl rfl ?_
    refine go_aload_n (q := 14) dX9_forced_13 rfl rfl ?_
    refine go_get (v := .int (s.1 21)) (q := 17) dX9_forced_14 fX9_13 (wg_23 _) rfl rfl ?_
    refine go_imul (q := 18) dX9_forced_17 rfl ?_
    refine go_icmp_ge (tgt := 72) (q := 21) dX9_forced_18 (by decide) rfl (fun c1 => ?_) (fun c1 => ?_)
    · replace h := g_pos c1 h
      refine go_iload_n (q := 73) dX9_forced_72 rfl rfl ?_
      refine go_iconst (v := 2) (q := 74) dX9_forced_73 (by decide) rfl ?_
      refine go_icmp_lt (tgt := 110) (q := 77) dX9_forced_74 (by decide) rfl (fun c2 => ?_) (fun c2 => ?_)
      · replace h := g_pos c2 h
        refine go_iconst (v := 0) (q := 111) dX9_forced_110 (by decide) rfl ?_
        cases h
        exact go_iret dX9_forced_111 rfl rfl (Nat.le_refl _) (Nat.le_refl _) ⟨rfl, rfl⟩
      · replace h := g_neg c2 h
        refine go_iload_n (q := 78) dX9_forced_77 rfl rfl ?_
        refine go_iconst (v := 1) (q := 79) dX9_forced_78 (by decide) rfl ?_
        refine go_icmp_ne (tgt := 110) (q := 82) dX9_forced_79 (by decide) rfl (fun c3 => ?_) (fun c3 => ?_)
        · replace h := g_neg c3 h
          refine go_iconst (v := 0) (q := 111) dX9_forced_110 (by decide) rfl ?_
          cases h
          exact go_iret dX9_forced_111 rfl rfl (Nat.le_refl _) (Nat.le_refl _) ⟨rfl, rfl⟩
        · replace h := g_pos c3 h
          refine go_aload_n (q := 83) dX9_forced_82 rfl rfl ?_
          refine go_iload_n (q := 84) dX9_forced_83 rfl rfl ?_
          refine go_iconst (v := 1) (q := 85) dX9_forced_84 (by decide) rfl ?_
          refine go_isub (q := 86) dX9_forced_85 rfl ?_
          refine go_aload_n (q := 87) dX9_forced_86 rfl rfl ?_
          refine go_get (v := .ref 24) (q := 90) dX9_forced_87 fX9_22 (wg_23 _) rfl rfl ?_
          refine go_iload_n (q := 91) dX9_forced_90 rfl rfl ?_
          refine go_iconst (v := 1) (q := 92) dX9_forced_91 (by decide) rfl ?_
          refine go_isub (q := 93) dX9_forced_92 rfl ?_
          obtain ⟨g4, h⟩ := g_guard h
          refine go_iald (f := s.2 20) (q := 94) dX9_forced_93 (wg_24 _) (inB_in g4) rfl ?_
          refine go_aload_n (q := 95) dX9_forced_94 rfl rfl ?_
          refine go_get (v := .int (s.1 24)) (q := 98) dX9_forced_95 fX9_19 (wg_23 _) rfl rfl ?_
          refine go_iconst (v := 1) (q := 99) dX9_forced_98 (by decide) rfl ?_
          refine go_isub (q := 100) dX9_forced_99 rfl ?_
          obtain ⟨r5, e6, h⟩ := g_bind h
          refine go_callV0 (q := 103) (as := [.int (x1 - 1), .int (s.2 20 (x1 - 1).toNatClampNeg), .int ((s.1 24) - 1)]) (rest := []) (st2 := [.int r5.1]) (w2 := wW r5.2) dX9_forced_100 cX9_117 (t_X9_behind s (x1 - 1) (s.2 20 (x1 - 1).toNatClampNeg) ((s.1 24) - 1) _ e6) (wg_23 _) rfl rfl rfl (Nat.le_of_ble_eq_true rfl) (by decide) ⟨Nat.le_refl _, Nat.le_refl _⟩ rfl rfl ?_
          refine go_if_lt (tgt := 110) (q := 106) dX9_forced_103 (by decide) rfl (fun c7 => ?_) (fun c7 => ?_)
          · replace h := g_pos c7 h
            refine go_iconst (v := 0) (q := 111) dX9_forced_110 (by decide) rfl ?_
            cases h
            exact go_iret dX9_forced_111 rfl rfl (Nat.le_refl _) (Nat.le_refl _) ⟨rfl, rfl⟩
          · replace h := g_neg c7 h
            refine go_iconst (v := 1) (q := 107) dX9_forced_106 (by decide) rfl ?_
            refine go_goto (tgt := 111) dX9_forced_107 (by decide) ?_
            cases h
            exact go_iret dX9_forced_111 rfl rfl (Nat.le_refl _) (Nat.le_refl _) ⟨rfl, rfl⟩
    · replace h := g_neg c1 h
      refine go_aload_n (q := 22) dX9_forced_21 rfl rfl ?_
      refine go_iload_n (q := 23) dX9_forced_22 rfl rfl ?_
      refine go_iconst (v := 1) (q := 24) dX9_forced_23 (by decide) rfl ?_
      refine go_isub (q := 25) dX9_forced_24 rfl ?_
      refine go_iload (q := 27) dX9_forced_25 rfl rfl ?_
      refine go_aload_n (q := 28) dX9_forced_27 rfl rfl ?_
      refine go_get (v := .int (s.1 24)) (q := 31) dX9_forced_28 fX9_19 (wg_23 _) rfl rfl ?_
      refine go_iconst (v := 1) (q := 32) dX9_forced_31 (by decide) rfl ?_
      refine go_isub (q := 33) dX9_forced_32 rfl ?_
      obtain ⟨r8, e9, h⟩ := g_bind h
      refine go_callV0 (q := 36) (as := [.int (x1 - 1), .int x4, .int ((s.1 24) - 1)]) (rest := []) (st2 := [.int r8.1]) (w2 := wW r8.2) dX9_forced_33 cX9_117 (t_X9_behind s (x1 - 1) x4 ((s.1 24) - 1) _ e9) (wg_23 _) rfl rfl rfl (Nat.le_of_ble_eq_true rfl) (by decide) ⟨Nat.le_refl _, Nat.le_refl _⟩ rfl rfl ?_
      refine go_istore (ls2 := [some (.ref 23), some (.int x1), some (.int x2), some (.int x3), some (.int x4), some (.int r8.1)]) (q := 38) dX9_forced_36 (by decide) rfl rfl ?_
      refine go_iload_n (q := 39) dX9_forced_38 rfl rfl ?_
      refine go_iload (q := 41) dX9_forced_39 rfl rfl ?_
      refine go_bipush (v := (-3 : Int32)) (q := 43) dX9_forced_41 (by decide) rfl ?_
      refine go_icmp_ne (tgt := 50) (q := 46) dX9_forced_43 (by decide) rfl (fun c10 => ?_) (fun c10 => ?_)
      · replace h := g_neg c10 h
        refine go_iconst (v := 1) (q := 51) dX9_forced_50 (by decide) rfl ?_
        refine go_ls (ls2 := [some (.ref 23), some (.int x1), none, some (.int x3), some (.int x4), some (.int r8.1)]) ⟨rfl, rfl, rfl, rfl, rfl, trivial⟩ ?_
        exact b_X9_forced_51 (f_X9_forced_7 φ) r (fun s x1 x2 x3 x4 h => ih s x1 x2 x3 x4 h) r8.2 x1 x3 x4 r8.1 x2 1 h
      · replace h := g_pos c10 h
        refine go_iconst (v := 0) (q := 47) dX9_forced_46 (by decide) rfl ?_
        refine go_goto (tgt := 51) dX9_forced_47 (by decide) ?_
        refine go_ls (ls2 := [some (.ref 23), some (.int x1), none, some (.int x3), some (.int x4), some (.int r8.1)]) ⟨rfl, rfl, rfl, rfl, rfl, trivial⟩ ?_
        exact b_X9_forced_51 (f_X9_forced_7 φ) r (fun s x1 x2 x3 x4 h => ih s x1 x2 x3 x4 h) r8.2 x1 x3 x4 r8.1 x2 0 h
def f_X9_forced (s : gS) (x1 : Int32) : Option (Int32 × gS) :=
  f_X9_forced_7 gφ s x1 0 0 0
set_option maxHeartbeats 4000000 in
set_option maxRecDepth 100000 in
theorem b_X9_forced (r : Int32 × gS) : ∀ (s : gS) (x1 : Int32) , f_X9_forced s x1 = some r → Go gTr yX9_forced cX9_forced 6 (some .int) 8 0 0 (fun r9 w9 => r9 = some (.int r.1) ∧ w9 = wW r.2) 0 0 (wW s) 0 [some (.ref 23), some (.int x1), none, none, none, none] [] := by
  intro s x1 h
  rw [f_X9_forced] at h
  refine go_iconst (v := 0) (q := 1) dX9_forced_0 (by decide) rfl ?_
  refine go_istore_n (ls2 := [some (.ref 23), some (.int x1), some (.int 0), none, none, none]) (q := 2) dX9_forced_1 (by decide) rfl rfl ?_
  refine go_iconst (v := 0) (q := 3) dX9_forced_2 (by decide) rfl ?_
  refine go_istore_n (ls2 := [some (.ref 23), some (.int x1), some (.int 0), some (.int 0), none, none]) (q := 4) dX9_forced_3 (by decide) rfl rfl ?_
  refine go_iconst (v := 0) (q := 5) dX9_forced_4 (by decide) rfl ?_
  refine go_istore (ls2 := [some (.ref 23), some (.int x1), some (.int 0), some (.int 0), some (.int 0), none]) (q := 7) dX9_forced_5 (by decide) rfl rfl ?_
  refine go_ls (ls2 := [some (.ref 23), some (.int x1), some (.int 0), some (.int 0), some (.int 0), none]) ⟨rfl, rfl, rfl, rfl, rfl, trivial⟩ ?_
  exact b_X9_forced_7 r gφ s x1 0 0 0 h
theorem t_X9_forced (s : gS) (x1 : Int32) (r : Int32 × gS) (h : f_X9_forced s x1 = some r) : Cal 8 mX9_forced [.ref 23, .int x1] (wW s) 0 0 (some (.int r.1)) (wW r.2) := Cal.of (by decide) (g_cats rfl) (Nat.le_of_ble_eq_true rfl) (b_X9_forced r s x1 h)
def f_X9_threat (s : gS) (x1 : Int32) : Option (Int32 × gS) :=
  (f_X9_setsUp s x1).bind fun r1 =>
  if (r1.1 28) = 3 then
    (f_X9_wins r1 ((x1 - 1) - (x1 - 1) / 2 * 2)).bind fun r4 =>
    some (r4, r1)
  else
    some (0, r1)
set_option maxHeartbeats 4000000 in
set_option maxRecDepth 100000 in
theorem b_X9_threat (r : Int32 × gS) : ∀ (s : gS) (x1 : Int32) , f_X9_threat s x1 = some r → Go gTr yX9_threat cX9_threat 2 (some .int) 7 0 0 (fun r9 w9 => r9 = some (.int r.1) ∧ w9 = wW r.2) 0 0 (wW s) 0 [some (.ref 23), some (.int x1)] [] := by
  intro s x1 h
  rw [f_X9_threat] at h
  refine go_aload_n (q := 1) dX9_threat_0 rfl rfl ?_
  refine go_iload_n (q := 2) dX9_threat_1 rfl rfl ?_
  obtain ⟨r1, e2, h⟩ := g_bind h
  refine go_callV0 (q := 5) (as := [.int x1]) (rest := []) (st2 := []) (w2 := wW r1) dX9_threat_2 cX9_106 (t_X9_setsUp s x1 _ e2) (wg_23 _) rfl rfl rfl (Nat.le_of_ble_eq_true rfl) (by decide) ⟨Nat.le_refl _, Nat.le_refl _⟩ rfl rfl ?_
  refine go_aload_n (q := 6) dX9_threat_5 rfl rfl ?_
  refine go_get (v := .int (r1.1 28)) (q := 9) dX9_threat_6 fX9_84 (wg_23 _) rfl rfl ?_
  refine go_iconst (v := 3) (q := 10) dX9_threat_9 (by decide) rfl ?_
  refine go_icmp_eq (tgt := 17) (q := 13) dX9_threat_10 (by decide) rfl (fun c3 => ?_) (fun c3 => ?_)
  · replace h := g_pos c3 h
    refine go_aload_n (q := 18) dX9_threat_17 rfl rfl ?_
    refine go_iload_n (q := 19) dX9_threat_18 rfl rfl ?_
    refine go_iconst (v := 1) (q := 20) dX9_threat_19 (by decide) rfl ?_
    refine go_isub (q := 21) dX9_threat_20 rfl ?_
    refine go_iconst (v := 2) (q := 22) dX9_threat_21 (by decide) rfl ?_
    refine go_irem (q := 23) dX9_threat_22 (by decide) rfl ?_
    obtain ⟨r4, e5, h⟩ := g_bind h
    refine go_callV0 (q := 26) (as := [.int ((x1 - 1) - (x1 - 1) / 2 * 2)]) (rest := []) (st2 := [.int r4]) (w2 := wW r1) dX9_threat_23 cX9_124 (t_X9_wins r1 ((x1 - 1) - (x1 - 1) / 2 * 2) _ e5) (wg_23 _) rfl rfl rfl (Nat.le_of_ble_eq_true rfl) (by decide) ⟨Nat.le_refl _, Nat.le_refl _⟩ rfl rfl ?_
    cases h
    exact go_iret dX9_threat_26 rfl rfl (Nat.le_refl _) (Nat.le_refl _) ⟨rfl, rfl⟩
  · replace h := g_neg c3 h
    refine go_iconst (v := 0) (q := 14) dX9_threat_13 (by decide) rfl ?_
    refine go_goto (tgt := 26) dX9_threat_14 (by decide) ?_
    cases h
    exact go_iret dX9_threat_26 rfl rfl (Nat.le_refl _) (Nat.le_refl _) ⟨rfl, rfl⟩
theorem t_X9_threat (s : gS) (x1 : Int32) (r : Int32 × gS) (h : f_X9_threat s x1 = some r) : Cal 7 mX9_threat [.ref 23, .int x1] (wW s) 0 0 (some (.int r.1)) (wW r.2) := Cal.of (by decide) (g_cats rfl) (Nat.le_of_ble_eq_true rfl) (b_X9_threat r s x1 h)
def f_X9_found (s : gS) (x1 : Int32) (x2 : Int32) : Option (Int32 × gS) :=
  (f_X9_in x1 1 (s.1 23)).bind fun r1 =>
  if r1 = 0 then
    some ((-1 : Int32), s)
  else
    if x2 = 0 then
      (f_X9_setsUp s x1).bind fun r5 =>
      if (r5.1 28) = ((x1 - 1) - (x1 - 1) / 2 * 2) then
        some (1, r5)
      else
        some (0, r5)
    else
      if x2 = 1 then
        (f_X9_threat s x1).bind fun r9 =>
        some (r9.1, r9.2)
      else
        if x2 = 2 then
          (f_X9_forced s x1).bind fun r12 =>
          some (r12.1, r12.2)
        else
          if x2 = 3 then
            (f_X9_slip s x1).bind fun r15 =>
            some (r15.1, r15.2)
          else
            if x2 = 4 then
              (f_X9_missed s x1).bind fun r18 =>
              some (r18.1, r18.2)
            else
              if x2 = 5 then
                (f_X9_turn s x1).bind fun r21 =>
                some (r21.1, r21.2)
              else
                some ((-1 : Int32), s)
set_option maxHeartbeats 4000000 in
set_option maxRecDepth 100000 in
theorem b_X9_found (r : Int32 × gS) : ∀ (s : gS) (x1 : Int32) (x2 : Int32) , f_X9_found s x1 x2 = some r → Go gTr yX9_found cX9_found 3 (some .int) 9 0 0 (fun r9 w9 => r9 = some (.int r.1) ∧ w9 = wW r.2) 0 0 (wW s) 0 [some (.ref 23), some (.int x1), some (.int x2)] [] := by
  intro s x1 x2 h
  rw [f_X9_found] at h
  refine go_iload_n (q := 1) dX9_found_0 rfl rfl ?_
  refine go_iconst (v := 1) (q := 2) dX9_found_1 (by decide) rfl ?_
  refine go_aload_n (q := 3) dX9_found_2 rfl rfl ?_
  refine go_get (v := .int (s.1 23)) (q := 6) dX9_found_3 fX9_78 (wg_23 _) rfl rfl ?_
  obtain ⟨r1, e2, h⟩ := g_bind h
  refine go_callS0 (q := 9) (as := [.int x1, .int 1, .int (s.1 23)]) (rest := []) (st2 := [.int r1]) (w2 := wW s) dX9_found_6 cX9_67 (t_X9_in _ x1 1 (s.1 23) _ e2) rfl rfl (Nat.le_of_ble_eq_true rfl) (by decide) ⟨Nat.le_refl _, Nat.le_refl _⟩ rfl rfl ?_
  refine go_if_ne (tgt := 14) (q := 12) dX9_found_9 (by decide) rfl (fun c3 => ?_) (fun c3 => ?_)
  · replace h := g_neg c3 h
    refine go_iload_n (q := 15) dX9_found_14 rfl rfl ?_
    by_cases c4 : x2 = 0
    · replace h := g_pos c4 h
      refine go_tblIn (off := 37) (tgt := 52) dX9_found_15 (by rw [c4]; decide) (by rw [c4]; decide) (by rw [c4]; rfl) (by decide) ?_
      refine go_aload_n (q := 53) dX9_found_52 rfl rfl ?_
      refine go_iload_n (q := 54) dX9_found_53 rfl rfl ?_
      obtain ⟨r5, e6, h⟩ := g_bind h
      refine go_callV0 (q := 57) (as := [.int x1]) (rest := []) (st2 := []) (w2 := wW r5) dX9_found_54 cX9_106 (t_X9_setsUp s x1 _ e6) (wg_23 _) rfl rfl rfl (Nat.le_of_ble_eq_true rfl) (by decide) ⟨Nat.le_refl _, Nat.le_refl _⟩ rfl rfl ?_
      refine go_aload_n (q := 58) dX9_found_57 rfl rfl ?_
      refine go_get (v := .int (r5.1 28)) (q := 61) dX9_found_58 fX9_84 (wg_23 _) rfl rfl ?_
      refine go_iload_n (q := 62) dX9_found_61 rfl rfl ?_
      refine go_iconst (v := 1) (q := 63) dX9_found_62 (by decide) rfl ?_
      refine go_isub (q := 64) dX9_found_63 rfl ?_
      refine go_iconst (v := 2) (q := 65) dX9_found_64 (by decide) rfl ?_
      refine go_irem (q := 66) dX9_found_65 (by decide) rfl ?_
      refine go_icmp_ne (tgt := 73) (q := 69) dX9_found_66 (by decide) rfl (fun c7 => ?_) (fun c7 => ?_)
      · replace h := g_neg c7 h
        refine go_iconst (v := 0) (q := 74) dX9_found_73 (by decide) rfl ?_
        cases h
        exact go_iret dX9_found_74 rfl rfl (Nat.le_refl _) (Nat.le_refl _) ⟨rfl, rfl⟩
      · replace h := g_pos c7 h
        refine go_iconst (v := 1) (q := 70) dX9_found_69 (by decide) rfl ?_
        refine go_goto (tgt := 74) dX9_found_70 (by decide) ?_
        cases h
        exact go_iret dX9_found_74 rfl rfl (Nat.le_refl _) (Nat.le_refl _) ⟨rfl, rfl⟩
    replace h := g_neg c4 h
    by_cases c8 : x2 = 1
    · replace h := g_pos c8 h
      refine go_tblIn (off := 60) (tgt := 75) dX9_found_15 (by rw [c8]; decide) (by rw [c8]; decide) (by rw [c8]; rfl) (by decide) ?_
      refine go_aload_n (q := 76) dX9_found_75 rfl rfl ?_
      refine go_iload_n (q := 77) dX9_found_76 rfl rfl ?_
      obtain ⟨r9, e10, h⟩ := g_bind h
      refine go_callV0 (q := 80) (as := [.int x1]) (rest := []) (st2 := [.int r9.1]) (w2 := wW r9.2) dX9_found_77 cX9_134 (t_X9_threat s x1 _ e10) (wg_23 _) rfl rfl rfl (Nat.le_of_ble_eq_true rfl) (by decide) ⟨Nat.le_refl _, Nat.le_refl _⟩ rfl rfl ?_
      cases h
      exact go_iret dX9_found_80 rfl rfl (Nat.le_refl _) (Nat.le_refl _) ⟨rfl, rfl⟩
    replace h := g_neg c8 h
    by_cases c11 : x2 = 2
    · replace h := g_pos c11 h
      refine go_tblIn (off := 66) (tgt := 81) dX9_found_15 (by rw [c11]; decide) (by rw [c11]; decide) (by rw [c11]; rfl) (by decide) ?_
      refine go_aload_n (q := 82) dX9_found_81 rfl rfl ?_
      refine go_iload_n (q := 83) dX9_found_82 rfl rfl ?_
      obtain ⟨r12, e13, h⟩ := g_bind h
      refine go_callV0 (q := 86) (as := [.int x1]) (rest := []) (st2 := [.int r12.1]) (w2 := wW r12.2) dX9_found_83 cX9_137 (t_X9_forced s x1 _ e13) (wg_23 _) rfl rfl rfl (Nat.le_of_ble_eq_true rfl) (by decide) ⟨Nat.le_refl _, Nat.le_refl _⟩ rfl rfl ?_
      cases h
      exact go_iret dX9_found_86 rfl rfl (Nat.le_refl _) (Nat.le_refl _) ⟨rfl, rfl⟩
    replace h := g_neg c11 h
    by_cases c14 : x2 = 3
    · replace h := g_pos c14 h
      refine go_tblIn (off := 72) (tgt := 87) dX9_found_15 (by rw [c14]; decide) (by rw [c14]; decide) (by rw [c14]; rfl) (by decide) ?_
      refine go_aload_n (q := 88) dX9_found_87 rfl rfl ?_
      refine go_iload_n (q := 89) dX9_found_88 rfl rfl ?_
      obtain ⟨r15, e16, h⟩ := g_bind h
      refine go_callV0 (q := 92) (as := [.int x1]) (rest := []) (st2 := [.int r15.1]) (w2 := wW r15.2) dX9_found_89 cX9_140 (t_X9_slip s x1 _ e16) (wg_23 _) rfl rfl rfl (Nat.le_of_ble_eq_true rfl) (by decide) ⟨Nat.le_refl _, Nat.le_refl _⟩ rfl rfl ?_
      cases h
      exact go_iret dX9_found_92 rfl rfl (Nat.le_refl _) (Nat.le_refl _) ⟨rfl, rfl⟩
    replace h := g_neg c14 h
    by_cases c17 : x2 = 4
    · replace h := g_pos c17 h
      refine go_tblIn (off := 78) (tgt := 93) dX9_found_15 (by rw [c17]; decide) (by rw [c17]; decide) (by rw [c17]; rfl) (by decide) ?_
      refine go_aload_n (q := 94) dX9_found_93 rfl rfl ?_
      refine go_iload_n (q := 95) dX9_found_94 rfl rfl ?_
      obtain ⟨r18, e19, h⟩ := g_bind h
      refine go_callV0 (q := 98) (as := [.int x1]) (rest := []) (st2 := [.int r18.1]) (w2 := wW r18.2) dX9_found_95 cX9_143 (t_X9_missed s x1 _ e19) (wg_23 _) rfl rfl rfl (Nat.le_of_ble_eq_true rfl) (by decide) ⟨Nat.le_refl _, Nat.le_refl _⟩ rfl rfl ?_
      cases h
      exact go_iret dX9_found_98 rfl rfl (Nat.le_refl _) (Nat.le_refl _) ⟨rfl, rfl⟩
    replace h := g_neg c17 h
    by_cases c20 : x2 = 5
    · replace h := g_pos c20 h
      refine go_tblIn (off := 84) (tgt := 99) dX9_found_15 (by rw [c20]; decide) (by rw [c20]; decide) (by rw [c20]; rfl) (by decide) ?_
      refine go_aload_n (q := 100) dX9_found_99 rfl rfl ?_
      refine go_iload_n (q := 101) dX9_found_100 rfl rfl ?_
      obtain ⟨r21, e22, h⟩ := g_bind h
      refine go_callV0 (q := 104) (as := [.int x1]) (rest := []) (st2 := [.int r21.1]) (w2 := wW r21.2) dX9_found_101 cX9_146 (t_X9_turn s x1 _ e22) (wg_23 _) rfl rfl rfl (Nat.le_of_ble_eq_true rfl) (by decide) ⟨Nat.le_refl _, Nat.le_refl _⟩ rfl rfl ?_
      cases h
      exact go_iret dX9_found_104 rfl rfl (Nat.le_refl _) (Nat.le_refl _) ⟨rfl, rfl⟩
    replace h := g_neg c20 h
    refine go_tblOut (tgt := 105) dX9_found_15 (by have e_c4 := lv_neT c4 (a := 0) rfl; have e_c8 := lv_neT c8 (a := 1) rfl; have e_c11 := lv_neT c11 (a := 2) rfl; have e_c14 := lv_neT c14 (a := 3) rfl; have e_c17 := lv_neT c17 (a := 4) rfl; have e_c20 := lv_neT c20 (a := 5) rfl; omega) (by decide) ?_
    refine go_iconst (v := (-1 : Int32)) (q := 106) dX9_found_105 (by decide) rfl ?_
    cases h
    exact go_iret dX9_found_106 rfl rfl (Nat.le_refl _) (Nat.le_refl _) ⟨rfl, rfl⟩
  · replace h := g_pos c3 h
    refine go_iconst (v := (-1 : Int32)) (q := 13) dX9_found_12 (by decide) rfl ?_
    cases h
    exact go_iret dX9_found_13 rfl rfl (Nat.le_refl _) (Nat.le_refl _) ⟨rfl, rfl⟩
theorem t_X9_found (s : gS) (x1 : Int32) (x2 : Int32) (r : Int32 × gS) (h : f_X9_found s x1 x2 = some r) : Cal 9 mX9_found [.ref 23, .int x1, .int x2] (wW s) 0 0 (some (.int r.1)) (wW r.2) := Cal.of (by decide) (g_cats rfl) (Nat.le_of_ble_eq_true rfl) (b_X9_found r s x1 x2 h)
def f_X9_rowsOf_4 : Nat → gS → Int32 → Int32 → Int32 → Option Int32
  | 0, _, _, _, _ => none
  | φ + 1, s, x1, x2, x3 =>
    if x1 ≤ x3 then
      some x2
    else
      f_X9_rowsOf_4 φ s x1 ((x2 * (s.1 20)) * (s.1 21)) (x3 + 1)
set_option maxHeartbeats 4000000 in
set_option maxRecDepth 100000 in
theorem b_X9_rowsOf_4 (s : gS) (r : Int32) : ∀ (φ : Nat) (x1 : Int32) (x2 : Int32) (x3 : Int32) , f_X9_rowsOf_4 φ s x1 x2 x3 = some r → Go gTr yX9_rowsOf cX9_rowsOf 4 (some .int) 1 0 0 (fun r9 w9 => r9 = some (.int r) ∧ w9 = wW s) 0 0 (wW s) 4 [some (.ref 23), some (.int x1), some (.int x2), some (.int x3)] [] := by
  intro φ
  induction φ with
  | zero =>
    intro x1 x2 x3 h
    exact absurd h (by intro h0; cases h0)
  | succ φ ih =>
    intro x1 x2 x3 h
    rw [f_X9_rowsOf_4] at h
    refine go_iload_n (q := 5) dX9_rowsOf_4 rfl rfl ?_
    refine go_iload_n (q := 6) dX9_rowsOf_5 rfl rfl ?_
    refine go_icmp_ge (tgt := 27) (q := 9) dX9_rowsOf_6 (by decide) rfl (fun c1 => ?_) (fun c1 => ?_)
    · replace h := g_pos c1 h
      refine go_iload_n (q := 28) dX9_rowsOf_27 rfl rfl ?_
      cases h
      exact go_iret dX9_rowsOf_28 rfl rfl (Nat.le_refl _) (Nat.le_refl _) ⟨rfl, rfl⟩
    · replace h := g_neg c1 h
      refine go_iload_n (q := 10) dX9_rowsOf_9 rfl rfl ?_
      refine go_aload_n (q := 11) dX9_rowsOf_10 rfl rfl ?_
      refine go_get (v := .int (s.1 20)) (q := 14) dX9_rowsOf_11 fX9_7 (wg_23 _) rfl rfl ?_
      refine go_imul (q := 15) dX9_rowsOf_14 rfl ?_
      refine go_aload_n (q := 16) dX9_rowsOf_15 rfl rfl ?_
      refine go_get (v := .int (s.1 21)) (q := 19) dX9_rowsOf_16 fX9_13 (wg_23 _) rfl rfl ?_
      refine go_imul (q := 20) dX9_rowsOf_19 rfl ?_
      refine go_istore_n (ls2 := [some (.ref 23), some (.int x1), some (.int ((x2 * (s.1 20)) * (s.1 21))), some (.int x3)]) (q := 21) dX9_rowsOf_20 (by decide) rfl rfl ?_
      refine go_iinc (v := x3 + 1) (ls2 := [some (.ref 23), some (.int x1), some (.int ((x2 * (s.1 20)) * (s.1 21))), some (.int (x3 + 1))]) (q := 24) dX9_rowsOf_21 (by decide) rfl rfl rfl rfl ?_
      refine go_goto (tgt := 4) dX9_rowsOf_24 (by decide) ?_
      refine go_ls (ls2 := [some (.ref 23), some (.int x1), some (.int ((x2 * (s.1 20)) * (s.1 21))), some (.int (x3 + 1))]) ⟨rfl, rfl, rfl, rfl, trivial⟩ ?_
      exact ih x1 ((x2 * (s.1 20)) * (s.1 21)) (x3 + 1) h
def f_X9_rowsOf (s : gS) (x1 : Int32) : Option Int32 :=
  f_X9_rowsOf_4 gφ s x1 1 0
set_option maxHeartbeats 4000000 in
set_option maxRecDepth 100000 in
theorem b_X9_rowsOf (s : gS) (r : Int32) : ∀ (x1 : Int32) , f_X9_rowsOf s x1 = some r → Go gTr yX9_rowsOf cX9_rowsOf 4 (some .int) 1 0 0 (fun r9 w9 => r9 = some (.int r) ∧ w9 = wW s) 0 0 (wW s) 0 [some (.ref 23), some (.int x1), none, none] [] := by
  intro x1 h
  rw [f_X9_rowsOf] at h
  refine go_iconst (v := 1) (q := 1) dX9_rowsOf_0 (by decide) rfl ?_
  refine go_istore_n (ls2 := [some (.ref 23), some (.int x1), some (.int 1), none]) (q := 2) dX9_rowsOf_1 (by decide) rfl rfl ?_
  refine go_iconst (v := 0) (q := 3) dX9_rowsOf_2 (by decide) rfl ?_
  refine go_istore_n (ls2 := [some (.ref 23), some (.int x1), some (.int 1), some (.int 0)]) (q := 4) dX9_rowsOf_3 (by decide) rfl rfl ?_
  refine go_ls (ls2 := [some (.ref 23), some (.int x1), some (.int 1), some (.int 0)]) ⟨rfl, rfl, rfl, rfl, trivial⟩ ?_
  exact b_X9_rowsOf_4 s r gφ x1 1 0 h
theorem t_X9_rowsOf (s : gS) (x1 : Int32) (r : Int32) (h : f_X9_rowsOf s x1 = some r) : Cal 1 mX9_rowsOf [.ref 23, .int x1] (wW s) 0 0 (some (.int r)) (wW s) := Cal.of (by decide) (g_cats rfl) (Nat.le_of_ble_eq_true rfl) (b_X9_rowsOf s r x1 h)
def f_X9_reaches_56 (K17 : gS → Int32 → Int32 → Int32 → Int32 → Int32 → Int32 → Int32 → Int32 → Int32 → Option (Int32 × gS)) (s : gS) (x1 : Int32) (x2 : Int32) (x3 : Int32) (x4 : Int32) (x5 : Int32) (x6 : Int32) (x7 : Int32) (x9 : Int32) (t0 : Int32) : Option (Int32 × gS) :=
  (f_X9_isMove s t0).bind fun r1 =>
  if r1 = 0 then
    some (0, s)
  else
    if inB t0 16 = true then
      (f_X9_makesRow (sa s 22 t0.toNatClampNeg x1) t0 x1).bind fun r5 =>
      K17 (sa s 22 t0.toNatClampNeg x1) x1 x2 x3 x4 x5 x6 (x7 + 1) r5 (x9 + 1)
    else none
set_option maxHeartbeats 4000000 in
set_option maxRecDepth 100000 in
theorem b_X9_reaches_56 (K17 : gS → Int32 → Int32 → Int32 → Int32 → Int32 → Int32 → Int32 → Int32 → Int32 → Option (Int32 × gS)) (r : Int32 × gS) (hK17 : ∀ (s : gS) (x1 : Int32) (x2 : Int32) (x3 : Int32) (x4 : Int32) (x5 : Int32) (x6 : Int32) (x7 : Int32) (x8 : Int32) (x9 : Int32) , K17 s x1 x2 x3 x4 x5 x6 x7 x8 x9 = some r → Go gTr yX9_reaches cX9_reaches 11 (some .boolean) 7 0 0 (fun r9 w9 => r9 = some (.int r.1) ∧ w9 = wW r.2) 0 0 (wW s) 17 [some (.ref 23), some (.int x1), some (.int x2), some (.int x3), some (.int x4), some (.int x5), some (.int x6), some (.int x7), some (.int x8), some (.int x9), none] []) : ∀ (s : gS) (x1 : Int32) (x2 : Int32) (x3 : Int32) (x4 : Int32) (x5 : Int32) (x6 : Int32) (x7 : Int32) (x9 : Int32) (t0 : Int32) , f_X9_reaches_56 K17 s x1 x2 x3 x4 x5 x6 x7 x9 t0 = some r → Go gTr yX9_reaches cX9_reaches 11 (some .boolean) 7 0 0 (fun r9 w9 => r9 = some (.int r.1) ∧ w9 = wW r.2) 0 0 (wW s) 56 [some (.ref 23), some (.int x1), some (.int x2), some (.int x3), some (.int x4), some (.int x5), some (.int x6), some (.int x7), none, some (.int x9), none] [.int t0] := by
  intro s x1 x2 x3 x4 x5 x6 x7 x9 t0 h
  rw [f_X9_reaches_56] at h
  refine go_istore (ls2 := [some (.ref 23), some (.int x1), some (.int x2), some (.int x3), some (.int x4), some (.int x5), some (.int x6), some (.int x7), none, some (.int x9), some (.int t0)]) (q := 58) dX9_reaches_56 (by decide) rfl rfl ?_
  refine go_aload_n (q := 59) dX9_reaches_58 rfl rfl ?_
  refine go_iload (q := 61) dX9_reaches_59 rfl rfl ?_
  obtain ⟨r1, e2, h⟩ := g_bind h
  refine go_callV0 (q := 64) (as := [.int t0]) (rest := []) (st2 := [.int r1]) (w2 := wW s) dX9_reaches_61 cX9_109 (t_X9_isMove s t0 _ e2) (wg_23 _) rfl rfl rfl (Nat.le_of_ble_eq_true rfl) (by decide) ⟨Nat.le_refl _, Nat.le_refl _⟩ rfl rfl ?_
  refine go_if_ne (tgt := 69) (q := 67) dX9_reaches_64 (by decide) rfl (fun c3 => ?_) (fun c3 => ?_)
  · replace h := g_neg c3 h
    refine go_aload_n (q := 70) dX9_reaches_69 rfl rfl ?_
    refine go_get (v := .ref 26) (q := 73) dX9_reaches_70 fX9_29 (wg_23 _) rfl rfl ?_
    refine go_iload (q := 75) dX9_reaches_73 rfl rfl ?_
    refine go_iload_n (q := 76) dX9_reaches_75 rfl rfl ?_
    obtain ⟨g4, h⟩ := g_guard h
    refine go_iast (w2 := wW (sa s 22 t0.toNatClampNeg x1)) (q := 77) dX9_reaches_76 (wg_26 _) (inB_in g4) (wa_26 _ _ _) rfl ?_
    refine go_aload_n (q := 78) dX9_reaches_77 rfl rfl ?_
    refine go_iload (q := 80) dX9_reaches_78 rfl rfl ?_
    refine go_iload_n (q := 81) dX9_reaches_80 rfl rfl ?_
    obtain ⟨r5, e6, h⟩ := g_bind h
    refine go_callV0 (q := 84) (as := [.int t0, .int x1]) (rest := []) (st2 := [.int r5]) (w2 := wW (sa s 22 t0.toNatClampNeg x1)) dX9_reaches_81 cX9_95 (t_X9_makesRow (sa s 22 t0.toNatClampNeg x1) t0 x1 _ e6) (wg_23 _) rfl rfl rfl (Nat.le_of_ble_eq_true rfl) (by decide) ⟨Nat.le_refl _, Nat.le_refl _⟩ rfl rfl ?_
    refine go_istore (ls2 := [some (.ref 23), some (.int x1), some (.int x2), some (.int x3), some (.int x4), some (.int x5), some (.int x6), some (.int x7), some (.int r5), some (.int x9), some (.int t0)]) (q := 86) dX9_reaches_84 (by decide) rfl rfl ?_
    refine go_iload (q := 88) dX9_reaches_86 rfl rfl ?_
    refine go_iconst (v := 1) (q := 89) dX9_reaches_88 (by decide) rfl ?_
    refine go_iadd (q := 90) dX9_reaches_89 rfl ?_
    refine go_istore (ls2 := [some (.ref 23), some (.int x1), some (.int x2), some (.int x3), some (.int x4), some (.int x5), some (.int x6), some (.int (x7 + 1)), some (.int r5), some (.int x9), some (.int t0)]) (q := 92) dX9_reaches_90 (by decide) rfl rfl ?_
    refine go_iinc (v := x9 + 1) (ls2 := [some (.ref 23), some (.int x1), some (.int x2), some (.int x3), some (.int x4), some (.int x5), some (.int x6), some (.int (x7 + 1)), some (.int r5), some (.int (x9 + 1)), some (.int t0)]) (q := 95) dX9_reaches_92 (by decide) rfl rfl rfl rfl ?_
    refine go_goto (tgt := 17) dX9_reaches_95 (by decide) ?_
    refine go_ls (ls2 := [some (.ref 23), some (.int x1), some (.int x2), some (.int x3), some (.int x4), some (.int x5), some (.int x6), some (.int (x7 + 1)), some (.int r5), some (.int (x9 + 1)), none]) ⟨rfl, rfl, rfl, rfl, rfl, rfl, rfl, rfl, rfl, rfl, trivial⟩ ?_
    exact hK17 (sa s 22 t0.toNatClampNeg x1) x1 x2 x3 x4 x5 x6 (x7 + 1) r5 (x9 + 1) h
  · replace h := g_pos c3 h
    refine go_iconst (v := 0) (q := 68) dX9_reaches_67 (by decide) rfl ?_
    cases h
    exact go_iret dX9_reaches_68 rfl rfl (Nat.le_refl _) (Nat.le_refl _) ⟨rfl, rfl⟩
def f_X9_reaches_17 : Nat → gS → Int32 → Int32 → Int32 → Int32 → Int32 → Int32 → Int32 → Int32 → Int32 → Option (Int32 × gS)
  | 0, _, _, _, _, _, _, _, _, _, _ => none
  | φ + 1, s, x1, x2, x3, x4, x5, x6, x7, x8, x9 =>
    if x2 ≤ x9 then
      if isZ x8 = true then
        some (x8, s)
      else none
    else
      if x9 = 0 then
        f_X9_reaches_56 (f_X9_reaches_17 φ) s x1 x2 x3 x4 x5 x6 x7 x9 x3
      else
        if x9 = 1 then
          f_X9_reaches_56 (f_X9_reaches_17 φ) s x1 x2 x3 x4 x5 x6 x7 x9 x4
        else
          if x9 = 2 then
            f_X9_reaches_56 (f_X9_reaches_17 φ) s x1 x2 x3 x4 x5 x6 x7 x9 x5
          else
            f_X9_reaches_56 (f_X9_reaches_17 φ) s x1 x2 x3 x4 x5 x6 x7 x9 x6
set_option maxHeartbeats 4000000 in
set_option maxRecDepth 100000 in
theorem b_X9_reaches_17 (r : Int32 × gS) : ∀ (φ : Nat) (s : gS) (x1 : Int32) (x2 : Int32) (x3 : Int32) (x4 : Int32) (x5 : Int32) (x6 : Int32) (x7 : Int32) (x8 : Int32) (x9 : Int32) , f_X9_reaches_17 φ s x1 x2 x3 x4 x5 x6 x7 x8 x9 = some r → Go gTr yX9_reaches cX9_reaches 11 (some .boolean) 7 0 0 (fun r9 w9 => r9 = some (.int r.1) ∧ w9 = wW r.2) 0 0 (wW s) 17 [some (.ref 23), some (.int x1), some (.int x2), some (.int x3), some (.int x4), some (.int x5), some (.int x6), some (.int x7), some (.int x8), some (.int x9), none] [] := by
  intro φ
  induction φ with
  | zero =>
    intro s x1 x2 x3 x4 x5 x6 x7 x8 x9 h
    exact absurd h (by intro h0; cases h0)
  | succ φ ih =>
    intro s x1 x2 x3 x4 x5 x6 x7 x8 x9 h
    rw [f_X9_reaches_17] at h
    refine go_iload (q := 19) dX9_reaches_17 rfl rfl ?_
    refine go_iload_n (q := 20) dX9_reaches_19 rfl rfl ?_
    refine go_icmp_ge (tgt := 98) (q := 23) dX9_reaches_20 (by decide) rfl (fun c1 => ?_) (fun c1 => ?_)
    · replace h := g_pos c1 h
      refine go_iload (q := 100) dX9_reaches_98 rfl rfl ?_
      obtain ⟨g2, h⟩ := g_guard h
      cases h
      exact go_iret dX9_reaches_100 rfl (isZ_nar g2) (Nat.le_refl _) (Nat.le_refl _) ⟨rfl, rfl⟩
    · replace h := g_neg c1 h
      refine go_iload (q := 25) dX9_reaches_23 rfl rfl ?_
      refine go_if_ne (tgt := 32) (q := 28) dX9_reaches_25 (by decide) rfl (fun c3 => ?_) (fun c3 => ?_)
      · replace h := g_neg c3 h
        refine go_iload (q := 34) dX9_reaches_32 rfl rfl ?_
        refine go_iconst (v := 1) (q := 35) dX9_reaches_34 (by decide) rfl ?_
        refine go_icmp_ne (tgt := 43) (q := 38) dX9_reaches_35 (by decide) rfl (fun c4 => ?_) (fun c4 => ?_)
        · replace h := g_neg c4 h
          refine go_iload (q := 45) dX9_reaches_43 rfl rfl ?_
          refine go_iconst (v := 2) (q := 46) dX9_reaches_45 (by decide) rfl ?_
          refine go_icmp_ne (tgt := 54) (q := 49) dX9_reaches_46 (by decide) rfl (fun c5 => ?_) (fun c5 => ?_)
          · replace h := g_neg c5 h
            refine go_iload (q := 56) dX9_reaches_54 rfl rfl ?_
            refine go_ls (ls2 := [some (.ref 23), some (.int x1), some (.int x2), some (.int x3), some (.int x4), some (.int x5), some (.int x6), some (.int x7), none, some (.int x9), none]) ⟨rfl, rfl, rfl, rfl, rfl, rfl, rfl, rfl, rfl, trivial⟩ ?_
            exact b_X9_reaches_56 (f_X9_reaches_17 φ) r (fun s x1 x2 x3 x4 x5 x6 x7 x8 x9 h => ih s x1 x2 x3 x4 x5 x6 x7 x8 x9 h) s x1 x2 x3 x4 x5 x6 x7 x9 x6 h
          · replace h := g_pos c5 h
            refine go_iload (q := 51) dX9_reaches_49 rfl rfl ?_
            refine go_goto (tgt := 56) dX9_reaches_51 (by decide) ?_
            refine go_ls (ls2 := [some (.ref 23), some (.int x1), some (.int x2), some (.int x3), some (.int x4), some (.int x5), some (.int x6), some (.int x7), none, some (.int x9), none]) ⟨rfl, rfl, rfl, rfl, rfl, rfl, rfl, rfl, rfl, trivial⟩ ?_
            exact b_X9_reaches_56 (f_X9_reaches_17 φ) r (fun s x1 x2 x3 x4 x5 x6 x7 x8 x9 h => ih s x1 x2 x3 x4 x5 x6 x7 x8 x9 h) s x1 x2 x3 x4 x5 x6 x7 x9 x5 h
        · replace h := g_pos c4 h
          refine go_iload (q := 40) dX9_reaches_38 rfl rfl ?_
          refine go_goto (tgt := 56) dX9_reaches_40 (by decide) ?_
          refine go_ls (ls2 := [some (.ref 23), some (.int x1), some (.int x2), some (.int x3), some (.int x4), some (.int x5), some (.int x6), some (.int x7), none, some (.int x9), none]) ⟨rfl, rfl, rfl, rfl, rfl, rfl, rfl, rfl, rfl, trivial⟩ ?_
          exact b_X9_reaches_56 (f_X9_reaches_17 φ) r (fun s x1 x2 x3 x4 x5 x6 x7 x8 x9 h => ih s x1 x2 x3 x4 x5 x6 x7 x8 x9 h) s x1 x2 x3 x4 x5 x6 x7 x9 x4 h
      · replace h := g_pos c3 h
        refine go_iload_n (q := 29) dX9_reaches_28 rfl rfl ?_
        refine go_goto (tgt := 56) dX9_reaches_29 (by decide) ?_
        refine go_ls (ls2 := [some (.ref 23), some (.int x1), some (.int x2), some (.int x3), some (.int x4), some (.int x5), some (.int x6), some (.int x7), none, some (.int x9), none]) ⟨rfl, rfl, rfl, rfl, rfl, rfl, rfl, rfl, rfl, trivial⟩ ?_
        exact b_X9_reaches_56 (f_X9_reaches_17 φ) r (fun s x1 x2 x3 x4 x5 x6 x7 x8 x9 h => ih s x1 x2 x3 x4 x5 x6 x7 x8 x9 h) s x1 x2 x3 x4 x5 x6 x7 x9 x3 h
def f_X9_reaches (s : gS) (x1 : Int32) (x2 : Int32) (x3 : Int32) (x4 : Int32) (x5 : Int32) (x6 : Int32) : Option (Int32 × gS) :=
  (f_X9_setsUp s (s.1 23)).bind fun r1 =>
  f_X9_reaches_17 gφ r1 x1 x2 x3 x4 x5 x6 0 0 0
set_option maxHeartbeats 4000000 in
set_option maxRecDepth 100000 in
theorem b_X9_reaches (r : Int32 × gS) : ∀ (s : gS) (x1 : Int32) (x2 : Int32) (x3 : Int32) (x4 : Int32) (x5 : Int32) (x6 : Int32) , f_X9_reaches s x1 x2 x3 x4 x5 x6 = some r → Go gTr yX9_reaches cX9_reaches 11 (some .boolean) 7 0 0 (fun r9 w9 => r9 = some (.int r.1) ∧ w9 = wW r.2) 0 0 (wW s) 0 [some (.ref 23), some (.int x1), some (.int x2), some (.int x3), some (.int x4), some (.int x5), some (.int x6), none, none, none, none] [] := by
  intro s x1 x2 x3 x4 x5 x6 h
  rw [f_X9_reaches] at h
  refine go_iconst (v := 0) (q := 1) dX9_reaches_0 (by decide) rfl ?_
  refine go_istore (ls2 := [some (.ref 23), some (.int x1), some (.int x2), some (.int x3), some (.int x4), some (.int x5), some (.int x6), some (.int 0), none, none, none]) (q := 3) dX9_reaches_1 (by decide) rfl rfl ?_
  refine go_iconst (v := 0) (q := 4) dX9_reaches_3 (by decide) rfl ?_
  refine go_istore (ls2 := [some (.ref 23), some (.int x1), some (.int x2), some (.int x3), some (.int x4), some (.int x5), some (.int x6), some (.int 0), some (.int 0), none, none]) (q := 6) dX9_reaches_4 (by decide) rfl rfl ?_
  refine go_aload_n (q := 7) dX9_reaches_6 rfl rfl ?_
  refine go_aload_n (q := 8) dX9_reaches_7 rfl rfl ?_
  refine go_get (v := .int (s.1 23)) (q := 11) dX9_reaches_8 fX9_78 (wg_23 _) rfl rfl ?_
  obtain ⟨r1, e2, h⟩ := g_bind h
  refine go_callV0 (q := 14) (as := [.int (s.1 23)]) (rest := []) (st2 := []) (w2 := wW r1) dX9_reaches_11 cX9_106 (t_X9_setsUp s (s.1 23) _ e2) (wg_23 _) rfl rfl rfl (Nat.le_of_ble_eq_true rfl) (by decide) ⟨Nat.le_refl _, Nat.le_refl _⟩ rfl rfl ?_
  refine go_iconst (v := 0) (q := 15) dX9_reaches_14 (by decide) rfl ?_
  refine go_istore (ls2 := [some (.ref 23), some (.int x1), some (.int x2), some (.int x3), some (.int x4), some (.int x5), some (.int x6), some (.int 0), some (.int 0), some (.int 0), none]) (q := 17) dX9_reaches_15 (by decide) rfl rfl ?_
  refine go_ls (ls2 := [some (.ref 23), some (.int x1), some (.int x2), some (.int x3), some (.int x4), some (.int x5), some (.int x6), some (.int 0), some (.int 0), some (.int 0), none]) ⟨rfl, rfl, rfl, rfl, rfl, rfl, rfl, rfl, rfl, rfl, trivial⟩ ?_
  exact b_X9_reaches_17 r gφ r1 x1 x2 x3 x4 x5 x6 0 0 0 h
theorem t_X9_reaches (s : gS) (x1 : Int32) (x2 : Int32) (x3 : Int32) (x4 : Int32) (x5 : Int32) (x6 : Int32) (r : Int32 × gS) (h : f_X9_reaches s x1 x2 x3 x4 x5 x6 = some r) : Cal 7 mX9_reaches [.ref 23, .int x1, .int x2, .int x3, .int x4, .int x5, .int x6] (wW s) 0 0 (some (.int r.1)) (wW r.2) := Cal.of (by decide) (g_cats rfl) (Nat.le_of_ble_eq_true rfl) (b_X9_reaches r s x1 x2 x3 x4 x5 x6 h)
def f_X9_plan_49 (K41 : gS → Int32 → Int32 → Int32 → Option (Int32 × gS)) : Nat → gS → Int32 → Int32 → Int32 → Int32 → Option (Int32 × gS)
  | 0, _, _, _, _, _ => none
  | φ + 1, s, x1, x2, x3, x4 =>
    (f_X9_rowsOf s x3).bind fun r1 =>
    if r1 ≤ x4 then
      K41 s x1 x2 (x3 + 1)
    else
      if nz x2 = true then
        if nz x2 = true then
          if nz x2 = true then
            if nz x2 = true then
              if nz x2 = true then
                if nz x2 = true then
                  if nz x2 = true then
                    (f_X9_reaches s x1 x3 (x4 - x4 / x2 * x2) ((x4 / x2) - (x4 / x2) / x2 * x2) (((x4 / x2) / x2) - ((x4 / x2) / x2) / x2 * x2) ((((x4 / x2) / x2) / x2) - (((x4 / x2) / x2) / x2) / x2 * x2)).bind fun r11 =>
                    if r11.1 = 0 then
                      f_X9_plan_49 K41 φ r11.2 x1 x2 x3 (x4 + 1)
                    else
                      some (x3, r11.2)
                  else none
                else none
              else none
            else none
          else none
        else none
      else none
set_option maxHeartbeats 4000000 in
set_option maxRecDepth 100000 in
theorem b_X9_plan_49 (K41 : gS → Int32 → Int32 → Int32 → Option (Int32 × gS)) (r : Int32 × gS) (hK41 : ∀ (s : gS) (x1 : Int32) (x2 : Int32) (x3 : Int32) , K41 s x1 x2 x3 = some r → Go gTr yX9_plan cX9_plan 8 (some .int) 8 0 0 (fun r9 w9 => r9 = some (.int r.1) ∧ w9 = wW r.2) 0 0 (wW s) 41 [some (.ref 23), some (.int x1), some (.int x2), some (.int x3), none, none, none, none] []) : ∀ (φ : Nat) (s : gS) (x1 : Int32) (x2 : Int32) (x3 : Int32) (x4 : Int32) , f_X9_plan_49 K41 φ s x1 x2 x3 x4 = some r → Go gTr yX9_plan cX9_plan 8 (some .int) 8 0 0 (fun r9 w9 => r9 = some (.int r.1) ∧ w9 = wW r.2) 0 0 (wW s) 49 [some (.ref 23), some (.int x1), some (.int x2), some (.int x3), some (.int x4), none, none, none] [] := by
  intro φ
  induction φ with
  | zero =>
    intro s x1 x2 x3 x4 h
    exact absurd h (by intro h0; cases h0)
  | succ φ ih =>
    intro s x1 x2 x3 x4 h
    rw [f_X9_plan_49] at h
    refine go_iload (q := 51) dX9_plan_49 rfl rfl ?_
    refine go_aload_n (q := 52) dX9_plan_51 rfl rfl ?_
    refine go_iload_n (q := 53) dX9_plan_52 rfl rfl ?_
    obtain ⟨r1, e2, h⟩ := g_bind h
    refine go_callV0 (q := 56) (as := [.int x3]) (rest := [.int x4]) (st2 := [.int r1, .int x4]) (w2 := wW s) dX9_plan_53 cX9_149 (t_X9_rowsOf s x3 _ e2) (wg_23 _) rfl rfl rfl (Nat.le_of_ble_eq_true rfl) (by decide) ⟨Nat.le_refl _, Nat.le_refl _⟩ rfl rfl ?_
    refine go_icmp_ge (tgt := 118) (q := 59) dX9_plan_56 (by decide) rfl (fun c3 => ?_) (fun c3 => ?_)
    · replace h := g_pos c3 h
      refine go_iinc (v := x3 + 1) (ls2 := [some (.ref 23), some (.int x1), some (.int x2), some (.int (x3 + 1)), some (.int x4), none, none, none]) (q := 121) dX9_plan_118 (by decide) rfl rfl rfl rfl ?_
      refine go_goto (tgt := 41) dX9_plan_121 (by decide) ?_
      refine go_ls (ls2 := [some (.ref 23), some (.int x1), some (.int x2), some (.int (x3 + 1)), none, none, none, none]) ⟨rfl, rfl, rfl, rfl, trivial⟩ ?_
      exact hK41 s x1 x2 (x3 + 1) h
    · replace h := g_neg c3 h
      refine go_iload (q := 61) dX9_plan_59 rfl rfl ?_
      refine go_istore (ls2 := [some (.ref 23), some (.int x1), some (.int x2), some (.int x3), some (.int x4), some (.int x4), none, none]) (q := 63) dX9_plan_61 (by decide) rfl rfl ?_
      refine go_iload (q := 65) dX9_plan_63 rfl rfl ?_
      refine go_iload_n (q := 66) dX9_plan_65 rfl rfl ?_
      obtain ⟨g4, h⟩ := g_guard h
      refine go_irem (q := 67) dX9_plan_66 (nz_ne g4) rfl ?_
      refine go_istore (ls2 := [some (.ref 23), some (.int x1), some (.int x2), some (.int x3), some (.int x4), some (.int x4), some (.int (x4 - x4 / x2 * x2)), none]) (q := 69) dX9_plan_67 (by decide) rfl rfl ?_
      refine go_iload (q := 71) dX9_plan_69 rfl rfl ?_
      refine go_iload_n (q := 72) dX9_plan_71 rfl rfl ?_
      obtain ⟨g5, h⟩ := g_guard h
      refine go_idiv (q := 73) dX9_plan_72 (nz_ne g5) rfl ?_
      refine go_istore (ls2 := [some (.ref 23), some (.int x1), some (.int x2), some (.int x3), some (.int x4), some (.int (x4 / x2)), some (.int (x4 - x4 / x2 * x2)), none]) (q := 75) dX9_plan_73 (by decide) rfl rfl ?_
      refine go_iload (q := 77) dX9_plan_75 rfl rfl ?_
      refine go_iload_n (q := 78) dX9_plan_77 rfl rfl ?_
      obtain ⟨g6, h⟩ := g_guard h
      refine go_irem (q := 79) dX9_plan_78 (nz_ne g6) rfl ?_
      refine go_istore (ls2 := [some (.ref 23), some (.int x1), some (.int x2), some (.int x3), some (.int x4), some (.int (x4 / x2)), some (.int (x4 - x4 / x2 * x2)), some (.int ((x4 / x2) - (x4 / x2) / x2 * x2))]) (q := 81) dX9_plan_79 (by decide) rfl rfl ?_
      refine go_iload (q := 83) dX9_plan_81 rfl rfl ?_
      refine go_iload_n (q := 84) dX9_plan_83 rfl rfl ?_
      obtain ⟨g7, h⟩ := g_guard h
      refine go_idiv (q := 85) dX9_plan_84 (nz_ne g7) rfl ?_
      refine go_istore (ls2 := [some (.ref 23), some (.int x1), some (.int x2), some (.int x3), some (.int x4), some (.int ((x4 / x2) / x2)), some (.int (x4 - x4 / x2 * x2)), some (.int ((x4 / x2) - (x4 / x2) / x2 * x2))]) (q := 87) dX9_plan_85 (by decide) rfl rfl ?_
      refine go_aload_n (q := 88) dX9_plan_87 rfl rfl ?_
      refine go_iload_n (q := 89) dX9_plan_88 rfl rfl ?_
      refine go_iload_n (q := 90) dX9_plan_89 rfl rfl ?_
      refine go_iload (q := 92) dX9_plan_90 rfl rfl ?_
      refine go_iload (q := 94) dX9_plan_92 rfl rfl ?_
      refine go_iload (q := 96) dX9_plan_94 rfl rfl ?_
      refine go_iload_n (q := 97) dX9_plan_96 rfl rfl ?_
      obtain ⟨g8, h⟩ := g_guard h
      refine go_irem (q := 98) dX9_plan_97 (nz_ne g8) rfl ?_
      refine go_iload (q := 100) dX9_plan_98 rfl rfl ?_
      refine go_iload_n (q := 101) dX9_plan_100 rfl rfl ?_
      obtain ⟨g9, h⟩ := g_guard h
      refine go_idiv (q := 102) dX9_plan_101 (nz_ne g9) rfl ?_
      refine go_iload_n (q := 103) dX9_plan_102 rfl rfl ?_
      obtain ⟨g10, h⟩ := g_guard h
      refine go_irem (q := 104) dX9_plan_103 (nz_ne g10) rfl ?_
      obtain ⟨r11, e12, h⟩ := g_bind h
      refine go_callV0 (q := 107) (as := [.int x1, .int x3, .int (x4 - x4 / x2 * x2), .int ((x4 / x2) - (x4 / x2) / x2 * x2), .int (((x4 / x2) / x2) - ((x4 / x2) / x2) / x2 * x2), .int ((((x4 / x2) / x2) / x2) - (((x4 / x2) / x2) / x2) / x2 * x2)]) (rest := []) (st2 := [.int r11.1]) (w2 := wW r11.2) dX9_plan_104 cX9_152 (t_X9_reaches s x1 x3 (x4 - x4 / x2 * x2) ((x4 / x2) - (x4 / x2) / x2 * x2) (((x4 / x2) / x2) - ((x4 / x2) / x2) / x2 * x2) ((((x4 / x2) / x2) / x2) - (((x4 / x2) / x2) / x2) / x2 * x2) _ e12) (wg_23 _) rfl rfl rfl (Nat.le_of_ble_eq_true rfl) (by decide) ⟨Nat.le_refl _, Nat.le_refl _⟩ rfl rfl ?_
      refine go_if_eq (tgt := 112) (q := 110) dX9_plan_107 (by decide) rfl (fun c13 => ?_) (fun c13 => ?_)
      · replace h := g_pos c13 h
        refine go_iinc (v := x4 + 1) (ls2 := [some (.ref 23), some (.int x1), some (.int x2), some (.int x3), some (.int (x4 + 1)), some (.int ((x4 / x2) / x2)), some (.int (x4 - x4 / x2 * x2)), some (.int ((x4 / x2) - (x4 / x2) / x2 * x2))]) (q := 115) dX9_plan_112 (by decide) rfl rfl rfl rfl ?_
        refine go_goto (tgt := 49) dX9_plan_115 (by decide) ?_
        refine go_ls (ls2 := [some (.ref 23), some (.int x1), some (.int x2), some (.int x3), some (.int (x4 + 1)), none, none, none]) ⟨rfl, rfl, rfl, rfl, rfl, trivial⟩ ?_
        exact ih r11.2 x1 x2 x3 (x4 + 1) h
      · replace h := g_neg c13 h
        refine go_iload_n (q := 111) dX9_plan_110 rfl rfl ?_
        cases h
        exact go_iret dX9_plan_111 rfl rfl (Nat.le_refl _) (Nat.le_refl _) ⟨rfl, rfl⟩
def f_X9_plan_41 : Nat → gS → Int32 → Int32 → Int32 → Option (Int32 × gS)
  | 0, _, _, _, _ => none
  | φ + 1, s, x1, x2, x3 =>
    if 4 < x3 then
      some ((-1 : Int32), s)
    else
      f_X9_plan_49 (f_X9_plan_41 φ) gφ s x1 x2 x3 0
set_option maxHeartbeats 4000000 in
set_option maxRecDepth 100000 in
theorem b_X9_plan_41 (r : Int32 × gS) : ∀ (φ : Nat) (s : gS) (x1 : Int32) (x2 : Int32) (x3 : Int32) , f_X9_plan_41 φ s x1 x2 x3 = some r → Go gTr yX9_plan cX9_plan 8 (some .int) 8 0 0 (fun r9 w9 => r9 = some (.int r.1) ∧ w9 = wW r.2) 0 0 (wW s) 41 [some (.ref 23), some (.int x1), some (.int x2), some (.int x3), none, none, none, none] [] := by
  intro φ
  induction φ with
  | zero =>
    intro s x1 x2 x3 h
    exact absurd h (by intro h0; cases h0)
  | succ φ ih =>
    intro s x1 x2 x3 h
    rw [f_X9_plan_41] at h
    refine go_iload_n (q := 42) dX9_plan_41 rfl rfl ?_
    refine go_iconst (v := 4) (q := 43) dX9_plan_42 (by decide) rfl ?_
    refine go_icmp_gt (tgt := 124) (q := 46) dX9_plan_43 (by decide) rfl (fun c1 => ?_) (fun c1 => ?_)
    · replace h := g_pos c1 h
      refine go_iconst (v := (-1 : Int32)) (q := 125) dX9_plan_124 (by decide) rfl ?_
      cases h
      exact go_iret dX9_plan_125 rfl rfl (Nat.le_refl _) (Nat.le_refl _) ⟨rfl, rfl⟩
    · replace h := g_neg c1 h
      refine go_iconst (v := 0) (q := 47) dX9_plan_46 (by decide) rfl ?_
      refine go_istore (ls2 := [some (.ref 23), some (.int x1), some (.int x2), some (.int x3), some (.int 0), none, none, none]) (q := 49) dX9_plan_47 (by decide) rfl rfl ?_
      refine go_ls (ls2 := [some (.ref 23), some (.int x1), some (.int x2), some (.int x3), some (.int 0), none, none, none]) ⟨rfl, rfl, rfl, rfl, rfl, trivial⟩ ?_
      exact b_X9_plan_49 (f_X9_plan_41 φ) r (fun s x1 x2 x3 h => ih s x1 x2 x3 h) gφ s x1 x2 x3 0 h
def f_X9_plan (s : gS) (x1 : Int32) : Option (Int32 × gS) :=
  (f_X9_in x1 0 1).bind fun r1 =>
  if r1 = 0 then
    some ((-1 : Int32), s)
  else
    (f_X9_setsUp s (s.1 23)).bind fun r4 =>
    if (r4.1 28) = 3 then
      f_X9_plan_41 gφ r4 x1 ((r4.1 20) * (r4.1 21)) 1
    else
      some ((-1 : Int32), r4)
set_option maxHeartbeats 4000000 in
set_option maxRecDepth 100000 in
theorem b_X9_plan (r : Int32 × gS) : ∀ (s : gS) (x1 : Int32) , f_X9_plan s x1 = some r → Go gTr yX9_plan cX9_plan 8 (some .int) 8 0 0 (fun r9 w9 => r9 = some (.int r.1) ∧ w9 = wW r.2) 0 0 (wW s) 0 [some (.ref 23), some (.int x1), none, none, none, none, none, none] [] := by
  intro s x1 h
  rw [f_X9_plan] at h
  refine go_iload_n (q := 1) dX9_plan_0 rfl rfl ?_
  refine go_iconst (v := 0) (q := 2) dX9_plan_1 (by decide) rfl ?_
  refine go_iconst (v := 1) (q := 3) dX9_plan_2 (by decide) rfl ?_
  obtain ⟨r1, e2, h⟩ := g_bind h
  refine go_callS0 (q := 6) (as := [.int x1, .int 0, .int 1]) (rest := []) (st2 := [.int r1]) (w2 := wW s) dX9_plan_3 cX9_67 (t_X9_in _ x1 0 1 _ e2) rfl rfl (Nat.le_of_ble_eq_true rfl) (by decide) ⟨Nat.le_refl _, Nat.le_refl _⟩ rfl rfl ?_
  refine go_if_ne (tgt := 11) (q := 9) dX9_plan_6 (by decide) rfl (fun c3 => ?_) (fun c3 => ?_)
  · replace h := g_neg c3 h
    refine go_aload_n (q := 12) dX9_plan_11 rfl rfl ?_
    refine go_aload_n (q := 13) dX9_plan_12 rfl rfl ?_
    refine go_get (v := .int (s.1 23)) (q := 16) dX9_plan_13 fX9_78 (wg_23 _) rfl rfl ?_
    obtain ⟨r4, e5, h⟩ := g_bind h
    refine go_callV0 (q := 19) (as := [.int (s.1 23)]) (rest := []) (st2 := []) (w2 := wW r4) dX9_plan_16 cX9_106 (t_X9_setsUp s (s.1 23) _ e5) (wg_23 _) rfl rfl rfl (Nat.le_of_ble_eq_true rfl) (by decide) ⟨Nat.le_refl _, Nat.le_refl _⟩ rfl rfl ?_
    refine go_aload_n (q := 20) dX9_plan_19 rfl rfl ?_
    refine go_get (v := .int (r4.1 28)) (q := 23) dX9_plan_20 fX9_84 (wg_23 _) rfl rfl ?_
    refine go_iconst (v := 3) (q := 24) dX9_plan_23 (by decide) rfl ?_
    refine go_icmp_eq (tgt := 29) (q := 27) dX9_plan_24 (by decide) rfl (fun c6 => ?_) (fun c6 => ?_)
    · replace h := g_pos c6 h
      refine go_aload_n (q := 30) dX9_plan_29 rfl rfl ?_
      refine go_get (v := .int (r4.1 20)) (q := 33) dX9_plan_30 fX9_7 (wg_23 _) rfl rfl ?_
      refine go_aload_n (q := 34) dX9_plan_33 rfl rfl ?_
      refine go_get (v := .int (r4.1 21)) (q := 37) dX9_plan_34 fX9_13 (wg_23 _) rfl rfl ?_
      refine go_imul (q := 38) dX9_plan_37 rfl ?_
      refine go_istore_n (ls2 := [some (.ref 23), some (.int x1), some (.int ((r4.1 20) * (r4.1 21))), none, none, none, none, none]) (q := 39) dX9_plan_38 (by decide) rfl rfl ?_
      refine go_iconst (v := 1) (q := 40) dX9_plan_39 (by decide) rfl ?_
      refine go_istore_n (ls2 := [some (.ref 23), some (.int x1), some (.int ((r4.1 20) * (r4.1 21))), some (.int 1), none, none, none, none]) (q := 41) dX9_plan_40 (by decide) rfl rfl ?_
      refine go_ls (ls2 := [some (.ref 23), some (.int x1), some (.int ((r4.1 20) * (r4.1 21))), some (.int 1), none, none, none, none]) ⟨rfl, rfl, rfl, rfl, trivial⟩ ?_
      exact b_X9_plan_41 r gφ r4 x1 ((r4.1 20) * (r4.1 21)) 1 h
    · replace h := g_neg c6 h
      refine go_iconst (v := (-1 : Int32)) (q := 28) dX9_plan_27 (by decide) rfl ?_
      cases h
      exact go_iret dX9_plan_28 rfl rfl (Nat.le_refl _) (Nat.le_refl _) ⟨rfl, rfl⟩
  · replace h := g_pos c3 h
    refine go_iconst (v := (-1 : Int32)) (q := 10) dX9_plan_9 (by decide) rfl ?_
    cases h
    exact go_iret dX9_plan_10 rfl rfl (Nat.le_refl _) (Nat.le_refl _) ⟨rfl, rfl⟩
theorem t_X9_plan (s : gS) (x1 : Int32) (r : Int32 × gS) (h : f_X9_plan s x1 = some r) : Cal 8 mX9_plan [.ref 23, .int x1] (wW s) 0 0 (some (.int r.1)) (wW r.2) := Cal.of (by decide) (g_cats rfl) (Nat.le_of_ble_eq_true rfl) (b_X9_plan r s x1 h)
def f_X9_says (s : gS) (x1 : Int32) : Option gS :=
  if inB (s.1 29) 600 = true then
    some (ss (sa s 28 ((s.1 29).toNatClampNeg) x1.toInt8.toInt32.toInt8.toInt32) 29 ((s.1 29) + 1))
  else none
set_option maxHeartbeats 4000000 in
set_option maxRecDepth 100000 in
theorem b_X9_says (r : gS) : ∀ (s : gS) (x1 : Int32) , f_X9_says s x1 = some r → Go gTr yX9_says cX9_says 2 none 1 0 0 (fun r9 w9 => r9 = none ∧ w9 = wW r) 0 0 (wW s) 0 [some (.ref 23), some (.int x1)] [] := by
  intro s x1 h
  rw [f_X9_says] at h
  refine go_aload_n (q := 1) dX9_says_0 rfl rfl ?_
  refine go_get (v := .ref 32) (q := 4) dX9_says_1 fX9_48 (wg_23 _) rfl rfl ?_
  refine go_aload_n (q := 5) dX9_says_4 rfl rfl ?_
  refine go_get (v := .int (s.1 29)) (q := 8) dX9_says_5 fX9_156 (wg_23 _) rfl rfl ?_
  refine go_iload_n (q := 9) dX9_says_8 rfl rfl ?_
  refine go_i2b (q := 10) dX9_says_9 rfl ?_
  obtain ⟨g1, h⟩ := g_guard h
  refine go_bast (w2 := wW (sa s 28 ((s.1 29).toNatClampNeg) x1.toInt8.toInt32.toInt8.toInt32)) (q := 11) dX9_says_10 (wg_32 _) (inB_in g1) (wa_32 _ _ _) rfl ?_
  refine go_aload_n (q := 12) dX9_says_11 rfl rfl ?_
  refine go_aload_n (q := 13) dX9_says_12 rfl rfl ?_
  refine go_get (v := .int (s.1 29)) (q := 16) dX9_says_13 fX9_156 (wg_23 _) rfl rfl ?_
  refine go_iconst (v := 1) (q := 17) dX9_says_16 (by decide) rfl ?_
  refine go_iadd (q := 18) dX9_says_17 rfl ?_
  refine go_put (w2 := wW (ss (sa s 28 ((s.1 29).toNatClampNeg) x1.toInt8.toInt32.toInt8.toInt32) 29 ((s.1 29) + 1))) (q := 21) dX9_says_18 fX9_156 (wg_23 _) (Nat.le_of_ble_eq_true rfl) (fun _ => rfl) (fun _ => rfl) (wp_23_18 _ _) rfl ?_
  cases h
  exact go_ret dX9_says_21 rfl (Nat.le_refl _) (Nat.le_refl _) ⟨rfl, rfl⟩
theorem t_X9_says (s : gS) (x1 : Int32) (r : gS) (h : f_X9_says s x1 = some r) : Cal 1 mX9_says [.ref 23, .int x1] (wW s) 0 0 none (wW r) := Cal.of (by decide) (g_cats rfl) (Nat.le_of_ble_eq_true rfl) (b_X9_says r s x1 h)
def f_X9_saysNumber_17 (s : gS) (x1 : Int32) : Option gS :=
  (f_X9_says s (48 + (x1 - x1 / 10 * 10))).bind fun r1 =>
  some r1
set_option maxHeartbeats 4000000 in
set_option maxRecDepth 100000 in
theorem b_X9_saysNumber_17 (r : gS) : ∀ (s : gS) (x1 : Int32) , f_X9_saysNumber_17 s x1 = some r → Go gTr yX9_saysNumber cX9_saysNumber 2 none 2 0 0 (fun r9 w9 => r9 = none ∧ w9 = wW r) 0 0 (wW s) 17 [some (.ref 23), some (.int x1)] [] := by
  intro s x1 h
  rw [f_X9_saysNumber_17] at h
  refine go_aload_n (q := 18) dX9_saysNumber_17 rfl rfl ?_
  refine go_bipush (v := 48) (q := 20) dX9_saysNumber_18 (by decide) rfl ?_
  refine go_iload_n (q := 21) dX9_saysNumber_20 rfl rfl ?_
  refine go_bipush (v := 10) (q := 23) dX9_saysNumber_21 (by decide) rfl ?_
  refine go_irem (q := 24) dX9_saysNumber_23 (by decide) rfl ?_
  refine go_iadd (q := 25) dX9_saysNumber_24 rfl ?_
  obtain ⟨r1, e2, h⟩ := g_bind h
  refine go_callV0 (q := 28) (as := [.int (48 + (x1 - x1 / 10 * 10))]) (rest := []) (st2 := []) (w2 := wW r1) dX9_saysNumber_25 cX9_159 (t_X9_says s (48 + (x1 - x1 / 10 * 10)) _ e2) (wg_23 _) rfl rfl rfl (Nat.le_of_ble_eq_true rfl) (by decide) ⟨Nat.le_refl _, Nat.le_refl _⟩ rfl rfl ?_
  cases h
  exact go_ret dX9_saysNumber_28 rfl (Nat.le_refl _) (Nat.le_refl _) ⟨rfl, rfl⟩
def f_X9_saysNumber (s : gS) (x1 : Int32) : Option gS :=
  if x1 < 10 then
    f_X9_saysNumber_17 s x1
  else
    (f_X9_says s (48 + (x1 / 10))).bind fun r2 =>
    f_X9_saysNumber_17 r2 x1
set_option maxHeartbeats 4000000 in
set_option maxRecDepth 100000 in
theorem b_X9_saysNumber (r : gS) : ∀ (s : gS) (x1 : Int32) , f_X9_saysNumber s x1 = some r → Go gTr yX9_saysNumber cX9_saysNumber 2 none 2 0 0 (fun r9 w9 => r9 = none ∧ w9 = wW r) 0 0 (wW s) 0 [some (.ref 23), some (.int x1)] [] := by
  intro s x1 h
  rw [f_X9_saysNumber] at h
  refine go_iload_n (q := 1) dX9_saysNumber_0 rfl rfl ?_
  refine go_bipush (v := 10) (q := 3) dX9_saysNumber_1 (by decide) rfl ?_
  refine go_icmp_lt (tgt := 17) (q := 6) dX9_saysNumber_3 (by decide) rfl (fun c1 => ?_) (fun c1 => ?_)
  · replace h := g_pos c1 h
    refine go_ls (ls2 := [some (.ref 23), some (.int x1)]) ⟨rfl, rfl, trivial⟩ ?_
    exact b_X9_saysNumber_17 r s x1 h
  · replace h := g_neg c1 h
    refine go_aload_n (q := 7) dX9_saysNumber_6 rfl rfl ?_
    refine go_bipush (v := 48) (q := 9) dX9_saysNumber_7 (by decide) rfl ?_
    refine go_iload_n (q := 10) dX9_saysNumber_9 rfl rfl ?_
    refine go_bipush (v := 10) (q := 12) dX9_saysNumber_10 (by decide) rfl ?_
    refine go_idiv (q := 13) dX9_saysNumber_12 (by decide) rfl ?_
    refine go_iadd (q := 14) dX9_saysNumber_13 rfl ?_
    obtain ⟨r2, e3, h⟩ := g_bind h
    refine go_callV0 (q := 17) (as := [.int (48 + (x1 / 10))]) (rest := []) (st2 := []) (w2 := wW r2) dX9_saysNumber_14 cX9_159 (t_X9_says s (48 + (x1 / 10)) _ e3) (wg_23 _) rfl rfl rfl (Nat.le_of_ble_eq_true rfl) (by decide) ⟨Nat.le_refl _, Nat.le_refl _⟩ rfl rfl ?_
    refine go_ls (ls2 := [some (.ref 23), some (.int x1)]) ⟨rfl, rfl, trivial⟩ ?_
    exact b_X9_saysNumber_17 r r2 x1 h
theorem t_X9_saysNumber (s : gS) (x1 : Int32) (r : gS) (h : f_X9_saysNumber s x1 = some r) : Cal 2 mX9_saysNumber [.ref 23, .int x1] (wW s) 0 0 none (wW r) := Cal.of (by decide) (g_cats rfl) (Nat.le_of_ble_eq_true rfl) (b_X9_saysNumber r s x1 h)
def f_X9_saysCell (s : gS) (x1 : Int32) : Option gS :=
  if nz (s.1 20) = true then
    (f_X9_says s (97 + (x1 - x1 / (s.1 20) * (s.1 20)))).bind fun r2 =>
    if nz (r2.1 20) = true then
      (f_X9_says r2 (49 + (x1 / (r2.1 20)))).bind fun r5 =>
      some r5
    else none
  else none
set_option maxHeartbeats 4000000 in
set_option maxRecDepth 100000 in
theorem b_X9_saysCell (r : gS) : ∀ (s : gS) (x1 : Int32) , f_X9_saysCell s x1 = some r → Go gTr yX9_saysCell cX9_saysCell 2 none 2 0 0 (fun r9 w9 => r9 = none ∧ w9 = wW r) 0 0 (wW s) 0 [some (.ref 23), some (.int x1)] [] := by
  intro s x1 h
  rw [f_X9_saysCell] at h
  refine go_aload_n (q := 1) dX9_saysCell_0 rfl rfl ?_
  refine go_bipush (v := 97) (q := 3) dX9_saysCell_1 (by decide) rfl ?_
  refine go_iload_n (q := 4) dX9_saysCell_3 rfl rfl ?_
  refine go_aload_n (q := 5) dX9_saysCell_4 rfl rfl ?_
  refine go_get (v := .int (s.1 20)) (q := 8) dX9_saysCell_5 fX9_7 (wg_23 _) rfl rfl ?_
  obtain ⟨g1, h⟩ := g_guard h
  refine go_irem (q := 9) dX9_saysCell_8 (nz_ne g1) rfl ?_
  refine go_iadd (q := 10) dX9_saysCell_9 rfl ?_
  obtain ⟨r2, e3, h⟩ := g_bind h
  refine go_callV0 (q := 13) (as := [.int (97 + (x1 - x1 / (s.1 20) * (s.1 20)))]) (rest := []) (st2 := []) (w2 := wW r2) dX9_saysCell_10 cX9_159 (t_X9_says s (97 + (x1 - x1 / (s.1 20) * (s.1 20))) _ e3) (wg_23 _) rfl rfl rfl (Nat.le_of_ble_eq_true rfl) (by decide) ⟨Nat.le_refl _, Nat.le_refl _⟩ rfl rfl ?_
  refine go_aload_n (q := 14) dX9_saysCell_13 rfl rfl ?_
  refine go_bipush (v := 49) (q := 16) dX9_saysCell_14 (by decide) rfl ?_
  refine go_iload_n (q := 17) dX9_saysCell_16 rfl rfl ?_
  refine go_aload_n (q := 18) dX9_saysCell_17 rfl rfl ?_
  refine go_get (v := .int (r2.1 20)) (q := 21) dX9_saysCell_18 fX9_7 (wg_23 _) rfl rfl ?_
  obtain ⟨g4, h⟩ := g_guard h
  refine go_idiv (q := 22) dX9_saysCell_21 (nz_ne g4) rfl ?_
  refine go_iadd (q := 23) dX9_saysCell_22 rfl ?_
  obtain ⟨r5, e6, h⟩ := g_bind h
  refine go_callV0 (q := 26) (as := [.int (49 + (x1 / (r2.1 20)))]) (rest := []) (st2 := []) (w2 := wW r5) dX9_saysCell_23 cX9_159 (t_X9_says r2 (49 + (x1 / (r2.1 20))) _ e6) (wg_23 _) rfl rfl rfl (Nat.le_of_ble_eq_true rfl) (by decide) ⟨Nat.le_refl _, Nat.le_refl _⟩ rfl rfl ?_
  cases h
  exact go_ret dX9_saysCell_26 rfl (Nat.le_refl _) (Nat.le_refl _) ⟨rfl, rfl⟩
theorem t_X9_saysCell (s : gS) (x1 : Int32) (r : gS) (h : f_X9_saysCell s x1 = some r) : Cal 2 mX9_saysCell [.ref 23, .int x1] (wW s) 0 0 none (wW r) := Cal.of (by decide) (g_cats rfl) (Nat.le_of_ble_eq_true rfl) (b_X9_saysCell r s x1 h)
def f_X9_lowestMissed_9 : Nat → gS → Int32 → Int32 → Option (Int32 × gS)
  | 0, _, _, _ => none
  | φ + 1, s, x1, x2 =>
    if ((s.1 20) * (s.1 21)) ≤ x2 then
      some ((-1 : Int32), s)
    else
      (f_X9_winsBy s x2 ((x1 - 1) - (x1 - 1) / 2 * 2)).bind fun r2 =>
      if r2 = 0 then
        f_X9_lowestMissed_9 φ s x1 (x2 + 1)
      else
        some (x2, s)
set_option maxHeartbeats 4000000 in
set_option maxRecDepth 100000 in
theorem b_X9_lowestMissed_9 (r : Int32 × gS) : ∀ (φ : Nat) (s : gS) (x1 : Int32) (x2 : Int32) , f_X9_lowestMissed_9 φ s x1 x2 = some r → Go gTr yX9_lowestMissed cX9_lowestMissed 3 (some .int) 7 0 0 (fun r9 w9 => r9 = some (.int r.1) ∧ w9 = wW r.2) 0 0 (wW s) 9 [some (.ref 23), some (.int x1), some (.int x2)] [] := by
  intro φ
  induction φ with
  | zero =>
    intro s x1 x2 h
    exact absurd h (by intro h0; cases h0)
  | succ φ ih =>
    intro s x1 x2 h
    rw [f_X9_lowestMissed_9] at h
    refine go_iload_n (q := 10) dX9_lowestMissed_9 rfl rfl ?_
    refine go_aload_n (q := 11) dX9_lowestMissed_10 rfl rfl ?_
    refine go_get (v := .int (s.1 20)) (q := 14) dX9_lowestMissed_11 fX9_7 (wg_23 _) rfl rfl ?_
    refine go_aload_n (q := 15) dX9_lowestMissed_14 rfl rfl ?_
    refine go_get (v := .int (s.1 21)) (q := 18) dX9_lowestMissed_15 fX9_13 (wg_23 _) rfl rfl ?_
    refine go_imul (q := 19) dX9_lowestMissed_18 rfl ?_
    refine go_icmp_ge (tgt := 43) (q := 22) dX9_lowestMissed_19 (by decide) rfl (fun c1 => ?_) (fun c1 => ?_)
    · replace h := g_pos c1 h
      refine go_iconst (v := (-1 : Int32)) (q := 44) dX9_lowestMissed_43 (by decide) rfl ?_
      cases h
      exact go_iret dX9_lowestMissed_44 rfl rfl (Nat.le_refl _) (Nat.le_refl _) ⟨rfl, rfl⟩
    · replace h := g_neg c1 h
      refine go_aload_n (q := 23) dX9_lowestMissed_22 rfl rfl ?_
      refine go_iload_n (q := 24) dX9_lowestMissed_23 rfl rfl ?_
      refine go_iload_n (q := 25) dX9_lowestMissed_24 rfl rfl ?_
      refine go_iconst (v := 1) (q := 26) dX9_lowestMissed_25 (by decide) rfl ?_
      refine go_isub (q := 27) dX9_lowestMissed_26 rfl ?_
      refine go_iconst (v := 2) (q := 28) dX9_lowestMissed_27 (by decide) rfl ?_
      refine go_irem (q := 29) dX9_lowestMissed_28 (by decide) rfl ?_
      obtain ⟨r2, e3, h⟩ := g_bind h
      refine go_callV0 (q := 32) (as := [.int x2, .int ((x1 - 1) - (x1 - 1) / 2 * 2)]) (rest := []) (st2 := [.int r2]) (w2 := wW s) dX9_lowestMissed_29 cX9_121 (t_X9_winsBy s x2 ((x1 - 1) - (x1 - 1) / 2 * 2) _ e3) (wg_23 _) rfl rfl rfl (Nat.le_of_ble_eq_true rfl) (by decide) ⟨Nat.le_refl _, Nat.le_refl _⟩ rfl rfl ?_
      refine go_if_eq (tgt := 37) (q := 35) dX9_lowestMissed_32 (by decide) rfl (fun c4 => ?_) (fun c4 => ?_)
      · replace h := g_pos c4 h
        refine go_iinc (v := x2 + 1) (ls2 := [some (.ref 23), some (.int x1), some (.int (x2 + 1))]) (q := 40) dX9_lowestMissed_37 (by decide) rfl rfl rfl rfl ?_
        refine go_goto (tgt := 9) dX9_lowestMissed_40 (by decide) ?_
        refine go_ls (ls2 := [some (.ref 23), some (.int x1), some (.int (x2 + 1))]) ⟨rfl, rfl, rfl, trivial⟩ ?_
        exact ih s x1 (x2 + 1) h
      · replace h := g_neg c4 h
        refine go_iload_n (q := 36) dX9_lowestMissed_35 rfl rfl ?_
        cases h
        exact go_iret dX9_lowestMissed_36 rfl rfl (Nat.le_refl _) (Nat.le_refl _) ⟨rfl, rfl⟩
def f_X9_lowestMissed (s : gS) (x1 : Int32) : Option (Int32 × gS) :=
  (f_X9_setsUp s (x1 - 1)).bind fun r1 =>
  f_X9_lowestMissed_9 gφ r1 x1 0
set_option maxHeartbeats 4000000 in
set_option maxRecDepth 100000 in
theorem b_X9_lowestMissed (r : Int32 × gS) : ∀ (s : gS) (x1 : Int32) , f_X9_lowestMissed s x1 = some r → Go gTr yX9_lowestMissed cX9_lowestMissed 3 (some .int) 7 0 0 (fun r9 w9 => r9 = some (.int r.1) ∧ w9 = wW r.2) 0 0 (wW s) 0 [some (.ref 23), some (.int x1), none] [] := by
  intro s x1 h
  rw [f_X9_lowestMissed] at h
  refine go_aload_n (q := 1) dX9_lowestMissed_0 rfl rfl ?_
  refine go_iload_n (q := 2) dX9_lowestMissed_1 rfl rfl ?_
  refine go_iconst (v := 1) (q := 3) dX9_lowestMissed_2 (by decide) rfl ?_
  refine go_isub (q := 4) dX9_lowestMissed_3 rfl ?_
  obtain ⟨r1, e2, h⟩ := g_bind h
  refine go_callV0 (q := 7) (as := [.int (x1 - 1)]) (rest := []) (st2 := []) (w2 := wW r1) dX9_lowestMissed_4 cX9_106 (t_X9_setsUp s (x1 - 1) _ e2) (wg_23 _) rfl rfl rfl (Nat.le_of_ble_eq_true rfl) (by decide) ⟨Nat.le_refl _, Nat.le_refl _⟩ rfl rfl ?_
  refine go_iconst (v := 0) (q := 8) dX9_lowestMissed_7 (by decide) rfl ?_
  refine go_istore_n (ls2 := [some (.ref 23), some (.int x1), some (.int 0)]) (q := 9) dX9_lowestMissed_8 (by decide) rfl rfl ?_
  refine go_ls (ls2 := [some (.ref 23), some (.int x1), some (.int 0)]) ⟨rfl, rfl, rfl, trivial⟩ ?_
  exact b_X9_lowestMissed_9 r gφ r1 x1 0 h
theorem t_X9_lowestMissed (s : gS) (x1 : Int32) (r : Int32 × gS) (h : f_X9_lowestMissed s x1 = some r) : Cal 7 mX9_lowestMissed [.ref 23, .int x1] (wW s) 0 0 (some (.int r.1)) (wW r.2) := Cal.of (by decide) (g_cats rfl) (Nat.le_of_ble_eq_true rfl) (b_X9_lowestMissed r s x1 h)
def f_X9_saysMove_143 (s : gS) (x1 : Int32) (x2 : Int32) : Option gS :=
  if x2 = 1 then
    (f_X9_found s x1 5).bind fun r2 =>
    if r2.1 ≤ 0 then
      some r2.2
    else
      (f_X9_says r2.2 61).bind fun r5 =>
      some r5
  else
    some s
set_option maxHeartbeats 4000000 in
set_option maxRecDepth 100000 in
theorem b_X9_saysMove_143 (r : gS) : ∀ (s : gS) (x1 : Int32) (x2 : Int32) , f_X9_saysMove_143 s x1 x2 = some r → Go gTr yX9_saysMove cX9_saysMove 6 none 10 0 0 (fun r9 w9 => r9 = none ∧ w9 = wW r) 0 0 (wW s) 143 [some (.ref 23), some (.int x1), some (.int x2), none, none, none] [] := by
  intro s x1 x2 h
  rw [f_X9_saysMove_143] at h
  refine go_iload_n (q := 144) dX9_saysMove_143 rfl rfl ?_
  refine go_iconst (v := 1) (q := 145) dX9_saysMove_144 (by decide) rfl ?_
  refine go_icmp_ne (tgt := 163) (q := 148) dX9_saysMove_145 (by decide) rfl (fun c1 => ?_) (fun c1 => ?_)
  · replace h := g_neg c1 h
    cases h
    exact go_ret dX9_saysMove_163 rfl (Nat.le_refl _) (Nat.le_refl _) ⟨rfl, rfl⟩
  · replace h := g_pos c1 h
    refine go_aload_n (q := 149) dX9_saysMove_148 rfl rfl ?_
    refine go_iload_n (q := 150) dX9_saysMove_149 rfl rfl ?_
    refine go_iconst (v := 5) (q := 151) dX9_saysMove_150 (by decide) rfl ?_
    obtain ⟨r2, e3, h⟩ := g_bind h
    refine go_callV0 (q := 154) (as := [.int x1, .int 5]) (rest := []) (st2 := [.int r2.1]) (w2 := wW r2.2) dX9_saysMove_151 cX9_168 (t_X9_found s x1 5 _ e3) (wg_23 _) rfl rfl rfl (Nat.le_of_ble_eq_true rfl) (by decide) ⟨Nat.le_refl _, Nat.le_refl _⟩ rfl rfl ?_
    refine go_if_le (tgt := 163) (q := 157) dX9_saysMove_154 (by decide) rfl (fun c4 => ?_) (fun c4 => ?_)
    · replace h := g_pos c4 h
      cases h
      exact go_ret dX9_saysMove_163 rfl (Nat.le_refl _) (Nat.le_refl _) ⟨rfl, rfl⟩
    · replace h := g_neg c4 h
      refine go_aload_n (q := 158) dX9_saysMove_157 rfl rfl ?_
      refine go_bipush (v := 61) (q := 160) dX9_saysMove_158 (by decide) rfl ?_
      obtain ⟨r5, e6, h⟩ := g_bind h
      refine go_callV0 (q := 163) (as := [.int 61]) (rest := []) (st2 := []) (w2 := wW r5) dX9_saysMove_160 cX9_159 (t_X9_says r2.2 61 _ e6) (wg_23 _) rfl rfl rfl (Nat.le_of_ble_eq_true rfl) (by decide) ⟨Nat.le_refl _, Nat.le_refl _⟩ rfl rfl ?_
      cases h
      exact go_ret dX9_saysMove_163 rfl (Nat.le_refl _) (Nat.le_refl _) ⟨rfl, rfl⟩
def f_X9_saysMove_100 : Nat → gS → Int32 → Int32 → Int32 → Int32 → Option gS
  | 0, _, _, _, _, _ => none
  | φ + 1, s, x1, x2, x4, x5 =>
    if x4 ≤ x5 then
      (f_X9_found s x1 4).bind fun r2 =>
      if r2.1 ≤ 0 then
        f_X9_saysMove_143 r2.2 x1 x2
      else
        (f_X9_says r2.2 42).bind fun r5 =>
        (f_X9_lowestMissed r5 x1).bind fun r7 =>
        (f_X9_saysCell r7.2 r7.1).bind fun r9 =>
        f_X9_saysMove_143 r9 x1 x2
    else
      (f_X9_says s 63).bind fun r11 =>
      f_X9_saysMove_100 φ r11 x1 x2 x4 (x5 + 1)
set_option maxHeartbeats 4000000 in
set_option maxRecDepth 100000 in
theorem b_X9_saysMove_100 (r : gS) : ∀ (φ : Nat) (s : gS) (x1 : Int32) (x2 : Int32) (x4 : Int32) (x5 : Int32) , f_X9_saysMove_100 φ s x1 x2 x4 x5 = some r → Go gTr yX9_saysMove cX9_saysMove 6 none 10 0 0 (fun r9 w9 => r9 = none ∧ w9 = wW r) 0 0 (wW s) 100 [some (.ref 23), some (.int x1), some (.int x2), none, some (.int x4), some (.int x5)] [] := by
  intro φ
  induction φ with
  | zero =>
    intro s x1 x2 x4 x5 h
    exact absurd h (by intro h0; cases h0)
  | succ φ ih =>
    intro s x1 x2 x4 x5 h
    rw [f_X9_saysMove_100] at h
    refine go_iload (q := 102) dX9_saysMove_100 rfl rfl ?_
    refine go_iload (q := 104) dX9_saysMove_102 rfl rfl ?_
    refine go_icmp_ge (tgt := 119) (q := 107) dX9_saysMove_104 (by decide) rfl (fun c1 => ?_) (fun c1 => ?_)
    · replace h := g_pos c1 h
      refine go_aload_n (q := 120) dX9_saysMove_119 rfl rfl ?_
      refine go_iload_n (q := 121) dX9_saysMove_120 rfl rfl ?_
      refine go_iconst (v := 4) (q := 122) dX9_saysMove_121 (by decide) rfl ?_
      obtain ⟨r2, e3, h⟩ := g_bind h
      refine go_callV0 (q := 125) (as := [.int x1, .int 4]) (rest := []) (st2 := [.int r2.1]) (w2 := wW r2.2) dX9_saysMove_122 cX9_168 (t_X9_found s x1 4 _ e3) (wg_23 _) rfl rfl rfl (Nat.le_of_ble_eq_true rfl) (by decide) ⟨Nat.le_refl _, Nat.le_refl _⟩ rfl rfl ?_
      refine go_if_le (tgt := 143) (q := 128) dX9_saysMove_125 (by decide) rfl (fun c4 => ?_) (fun c4 => ?_)
      · replace h := g_pos c4 h
        refine go_ls (ls2 := [some (.ref 23), some (.int x1), some (.int x2), none, none, none]) ⟨rfl, rfl, rfl, trivial⟩ ?_
        exact b_X9_saysMove_143 r r2.2 x1 x2 h
      · replace h := g_neg c4 h
        refine go_aload_n (q := 129) dX9_saysMove_128 rfl rfl ?_
        refine go_bipush (v := 42) (q := 131) dX9_saysMove_129 (by decide) rfl ?_
        obtain ⟨r5, e6, h⟩ := g_bind h
        refine go_callV0 (q := 134) (as := [.int 42]) (rest := []) (st2 := []) (w2 := wW r5) dX9_saysMove_131 cX9_159 (t_X9_says r2.2 42 _ e6) (wg_23 _) rfl rfl rfl (Nat.le_of_ble_eq_true rfl) (by decide) ⟨Nat.le_refl _, Nat.le_refl _⟩ rfl rfl ?_
        refine go_aload_n (q := 135) dX9_saysMove_134 rfl rfl ?_
        refine go_aload_n (q := 136) dX9_saysMove_135 rfl rfl ?_
        refine go_iload_n (q := 137) dX9_saysMove_136 rfl rfl ?_
        obtain ⟨r7, e8, h⟩ := g_bind h
        refine go_callV0 (q := 140) (as := [.int x1]) (rest := [.ref 23]) (st2 := [.int r7.1, .ref 23]) (w2 := wW r7.2) dX9_saysMove_137 cX9_171 (t_X9_lowestMissed r5 x1 _ e8) (wg_23 _) rfl rfl rfl (Nat.le_of_ble_eq_true rfl) (by decide) ⟨Nat.le_refl _, Nat.le_refl _⟩ rfl rfl ?_
        obtain ⟨r9, e10, h⟩ := g_bind h
        refine go_callV0 (q := 143) (as := [.int r7.1]) (rest := []) (st2 := []) (w2 := wW r9) dX9_saysMove_140 cX9_165 (t_X9_saysCell r7.2 r7.1 _ e10) (wg_23 _) rfl rfl rfl (Nat.le_of_ble_eq_true rfl) (by decide) ⟨Nat.le_refl _, Nat.le_refl _⟩ rfl rfl ?_
        refine go_ls (ls2 := [some (.ref 23), some (.int x1), some (.int x2), none, none, none]) ⟨rfl, rfl, rfl, trivial⟩ ?_
        exact b_X9_saysMove_143 r r9 x1 x2 h
    · replace h := g_neg c1 h
      refine go_aload_n (q := 108) dX9_saysMove_107 rfl rfl ?_
      refine go_bipush (v := 63) (q := 110) dX9_saysMove_108 (by decide) rfl ?_
      obtain ⟨r11, e12, h⟩ := g_bind h
      refine go_callV0 (q := 113) (as := [.int 63]) (rest := []) (st2 := []) (w2 := wW r11) dX9_saysMove_110 cX9_159 (t_X9_says s 63 _ e12) (wg_23 _) rfl rfl rfl (Nat.le_of_ble_eq_true rfl) (by decide) ⟨Nat.le_refl _, Nat.le_refl _⟩ rfl rfl ?_
      refine go_iinc (v := x5 + 1) (ls2 := [some (.ref 23), some (.int x1), some (.int x2), none, some (.int x4), some (.int (x5 + 1))]) (q := 116) dX9_saysMove_113 (by decide) rfl rfl rfl rfl ?_
      refine go_goto (tgt := 100) dX9_saysMove_116 (by decide) ?_
      refine go_ls (ls2 := [some (.ref 23), some (.int x1), some (.int x2), none, some (.int x4), some (.int (x5 + 1))]) ⟨rfl, rfl, rfl, rfl, rfl, trivial⟩ ?_
      exact ih r11 x1 x2 x4 (x5 + 1) h
def f_X9_saysMove_95 (s : gS) (x1 : Int32) (x2 : Int32) (t0 : Int32) : Option gS :=
  f_X9_saysMove_100 gφ s x1 x2 t0 0
set_option maxHeartbeats 4000000 in
set_option maxRecDepth 100000 in
theorem b_X9_saysMove_95 (r : gS) : ∀ (s : gS) (x1 : Int32) (x2 : Int32) (t0 : Int32) , f_X9_saysMove_95 s x1 x2 t0 = some r → Go gTr yX9_saysMove cX9_saysMove 6 none 10 0 0 (fun r9 w9 => r9 = none ∧ w9 = wW r) 0 0 (wW s) 95 [some (.ref 23), some (.int x1), some (.int x2), none, none, none] [.int t0] := by
  intro s x1 x2 t0 h
  rw [f_X9_saysMove_95] at h
  refine go_istore (ls2 := [some (.ref 23), some (.int x1), some (.int x2), none, some (.int t0), none]) (q := 97) dX9_saysMove_95 (by decide) rfl rfl ?_
  refine go_iconst (v := 0) (q := 98) dX9_saysMove_97 (by decide) rfl ?_
  refine go_istore (ls2 := [some (.ref 23), some (.int x1), some (.int x2), none, some (.int t0), some (.int 0)]) (q := 100) dX9_saysMove_98 (by decide) rfl rfl ?_
  refine go_ls (ls2 := [some (.ref 23), some (.int x1), some (.int x2), none, some (.int t0), some (.int 0)]) ⟨rfl, rfl, rfl, rfl, rfl, trivial⟩ ?_
  exact b_X9_saysMove_100 r gφ s x1 x2 t0 0 h
def f_X9_saysMove_80 (s : gS) (x1 : Int32) (x2 : Int32) : Option gS :=
  if x2 = 1 then
    (f_X9_found s x1 3).bind fun r2 =>
    f_X9_saysMove_95 r2.2 x1 x2 r2.1
  else
    f_X9_saysMove_95 s x1 x2 0
set_option maxHeartbeats 4000000 in
set_option maxRecDepth 100000 in
theorem b_X9_saysMove_80 (r : gS) : ∀ (s : gS) (x1 : Int32) (x2 : Int32) , f_X9_saysMove_80 s x1 x2 = some r → Go gTr yX9_saysMove cX9_saysMove 6 none 10 0 0 (fun r9 w9 => r9 = none ∧ w9 = wW r) 0 0 (wW s) 80 [some (.ref 23), some (.int x1), some (.int x2), none, none, none] [] := by
  intro s x1 x2 h
  rw [f_X9_saysMove_80] at h
  refine go_iload_n (q := 81) dX9_saysMove_80 rfl rfl ?_
  refine go_iconst (v := 1) (q := 82) dX9_saysMove_81 (by decide) rfl ?_
  refine go_icmp_ne (tgt := 94) (q := 85) dX9_saysMove_82 (by decide) rfl (fun c1 => ?_) (fun c1 => ?_)
  · replace h := g_neg c1 h
    refine go_iconst (v := 0) (q := 95) dX9_saysMove_94 (by decide) rfl ?_
    refine go_ls (ls2 := [some (.ref 23), some (.int x1), some (.int x2), none, none, none]) ⟨rfl, rfl, rfl, trivial⟩ ?_
    exact b_X9_saysMove_95 r s x1 x2 0 h
  · replace h := g_pos c1 h
    refine go_aload_n (q := 86) dX9_saysMove_85 rfl rfl ?_
    refine go_iload_n (q := 87) dX9_saysMove_86 rfl rfl ?_
    refine go_iconst (v := 3) (q := 88) dX9_saysMove_87 (by decide) rfl ?_
    obtain ⟨r2, e3, h⟩ := g_bind h
    refine go_callV0 (q := 91) (as := [.int x1, .int 3]) (rest := []) (st2 := [.int r2.1]) (w2 := wW r2.2) dX9_saysMove_88 cX9_168 (t_X9_found s x1 3 _ e3) (wg_23 _) rfl rfl rfl (Nat.le_of_ble_eq_true rfl) (by decide) ⟨Nat.le_refl _, Nat.le_refl _⟩ rfl rfl ?_
    refine go_goto (tgt := 95) dX9_saysMove_91 (by decide) ?_
    refine go_ls (ls2 := [some (.ref 23), some (.int x1), some (.int x2), none, none, none]) ⟨rfl, rfl, rfl, trivial⟩ ?_
    exact b_X9_saysMove_95 r r2.2 x1 x2 r2.1 h
def f_X9_saysMove_60 (s : gS) (x1 : Int32) (x2 : Int32) : Option gS :=
  if x2 = 1 then
    (f_X9_found s x1 2).bind fun r2 =>
    if r2.1 ≤ 0 then
      f_X9_saysMove_80 r2.2 x1 x2
    else
      (f_X9_says r2.2 33).bind fun r5 =>
      f_X9_saysMove_80 r5 x1 x2
  else
    f_X9_saysMove_80 s x1 x2
set_option maxHeartbeats 4000000 in
set_option maxRecDepth 100000 in
theorem b_X9_saysMove_60 (r : gS) : ∀ (s : gS) (x1 : Int32) (x2 : Int32) , f_X9_saysMove_60 s x1 x2 = some r → Go gTr yX9_saysMove cX9_saysMove 6 none 10 0 0 (fun r9 w9 => r9 = none ∧ w9 = wW r) 0 0 (wW s) 60 [some (.ref 23), some (.int x1), some (.int x2), none, none, none] [] := by
  intro s x1 x2 h
  rw [f_X9_saysMove_60] at h
  refine go_iload_n (q := 61) dX9_saysMove_60 rfl rfl ?_
  refine go_iconst (v := 1) (q := 62) dX9_saysMove_61 (by decide) rfl ?_
  refine go_icmp_ne (tgt := 80) (q := 65) dX9_saysMove_62 (by decide) rfl (fun c1 => ?_) (fun c1 => ?_)
  · replace h := g_neg c1 h
    refine go_ls (ls2 := [some (.ref 23), some (.int x1), some (.int x2), none, none, none]) ⟨rfl, rfl, rfl, trivial⟩ ?_
    exact b_X9_saysMove_80 r s x1 x2 h
  · replace h := g_pos c1 h
    refine go_aload_n (q := 66) dX9_saysMove_65 rfl rfl ?_
    refine go_iload_n (q := 67) dX9_saysMove_66 rfl rfl ?_
    refine go_iconst (v := 2) (q := 68) dX9_saysMove_67 (by decide) rfl ?_
    obtain ⟨r2, e3, h⟩ := g_bind h
    refine go_callV0 (q := 71) (as := [.int x1, .int 2]) (rest := []) (st2 := [.int r2.1]) (w2 := wW r2.2) dX9_saysMove_68 cX9_168 (t_X9_found s x1 2 _ e3) (wg_23 _) rfl rfl rfl (Nat.le_of_ble_eq_true rfl) (by decide) ⟨Nat.le_refl _, Nat.le_refl _⟩ rfl rfl ?_
    refine go_if_le (tgt := 80) (q := 74) dX9_saysMove_71 (by decide) rfl (fun c4 => ?_) (fun c4 => ?_)
    · replace h := g_pos c4 h
      refine go_ls (ls2 := [some (.ref 23), some (.int x1), some (.int x2), none, none, none]) ⟨rfl, rfl, rfl, trivial⟩ ?_
      exact b_X9_saysMove_80 r r2.2 x1 x2 h
    · replace h := g_neg c4 h
      refine go_aload_n (q := 75) dX9_saysMove_74 rfl rfl ?_
      refine go_bipush (v := 33) (q := 77) dX9_saysMove_75 (by decide) rfl ?_
      obtain ⟨r5, e6, h⟩ := g_bind h
      refine go_callV0 (q := 80) (as := [.int 33]) (rest := []) (st2 := []) (w2 := wW r5) dX9_saysMove_77 cX9_159 (t_X9_says r2.2 33 _ e6) (wg_23 _) rfl rfl rfl (Nat.le_of_ble_eq_true rfl) (by decide) ⟨Nat.le_refl _, Nat.le_refl _⟩ rfl rfl ?_
      refine go_ls (ls2 := [some (.ref 23), some (.int x1), some (.int x2), none, none, none]) ⟨rfl, rfl, rfl, trivial⟩ ?_
      exact b_X9_saysMove_80 r r5 x1 x2 h
def f_X9_saysMove_38 (s : gS) (x1 : Int32) (x2 : Int32) : Option gS :=
  (f_X9_found s x1 1).bind fun r1 =>
  if r1.1 ≤ 0 then
    f_X9_saysMove_60 r1.2 x1 x2
  else
    (f_X9_says r1.2 43).bind fun r4 =>
    (f_X9_saysNumber r4 r1.1).bind fun r6 =>
    f_X9_saysMove_60 r6 x1 x2
set_option maxHeartbeats 4000000 in
set_option maxRecDepth 100000 in
theorem b_X9_saysMove_38 (r : gS) : ∀ (s : gS) (x1 : Int32) (x2 : Int32) , f_X9_saysMove_38 s x1 x2 = some r → Go gTr yX9_saysMove cX9_saysMove 6 none 10 0 0 (fun r9 w9 => r9 = none ∧ w9 = wW r) 0 0 (wW s) 38 [some (.ref 23), some (.int x1), some (.int x2), none, none, none] [] := by
  intro s x1 x2 h
  rw [f_X9_saysMove_38] at h
  refine go_aload_n (q := 39) dX9_saysMove_38 rfl rfl ?_
  refine go_iload_n (q := 40) dX9_saysMove_39 rfl rfl ?_
  refine go_iconst (v := 1) (q := 41) dX9_saysMove_40 (by decide) rfl ?_
  obtain ⟨r1, e2, h⟩ := g_bind h
  refine go_callV0 (q := 44) (as := [.int x1, .int 1]) (rest := []) (st2 := [.int r1.1]) (w2 := wW r1.2) dX9_saysMove_41 cX9_168 (t_X9_found s x1 1 _ e2) (wg_23 _) rfl rfl rfl (Nat.le_of_ble_eq_true rfl) (by decide) ⟨Nat.le_refl _, Nat.le_refl _⟩ rfl rfl ?_
  refine go_istore_n (ls2 := [some (.ref 23), some (.int x1), some (.int x2), some (.int r1.1), none, none]) (q := 45) dX9_saysMove_44 (by decide) rfl rfl ?_
  refine go_iload_n (q := 46) dX9_saysMove_45 rfl rfl ?_
  refine go_if_le (tgt := 60) (q := 49) dX9_saysMove_46 (by decide) rfl (fun c3 => ?_) (fun c3 => ?_)
  · replace h := g_pos c3 h
    refine go_ls (ls2 := [some (.ref 23), some (.int x1), some (.int x2), none, none, none]) ⟨rfl, rfl, rfl, trivial⟩ ?_
    exact b_X9_saysMove_60 r r1.2 x1 x2 h
  · replace h := g_neg c3 h
    refine go_aload_n (q := 50) dX9_saysMove_49 rfl rfl ?_
    refine go_bipush (v := 43) (q := 52) dX9_saysMove_50 (by decide) rfl ?_
    obtain ⟨r4, e5, h⟩ := g_bind h
    refine go_callV0 (q := 55) (as := [.int 43]) (rest := []) (st2 := []) (w2 := wW r4) dX9_saysMove_52 cX9_159 (t_X9_says r1.2 43 _ e5) (wg_23 _) rfl rfl rfl (Nat.le_of_ble_eq_true rfl) (by decide) ⟨Nat.le_refl _, Nat.le_refl _⟩ rfl rfl ?_
    refine go_aload_n (q := 56) dX9_saysMove_55 rfl rfl ?_
    refine go_iload_n (q := 57) dX9_saysMove_56 rfl rfl ?_
    obtain ⟨r6, e7, h⟩ := g_bind h
    refine go_callV0 (q := 60) (as := [.int r1.1]) (rest := []) (st2 := []) (w2 := wW r6) dX9_saysMove_57 cX9_162 (t_X9_saysNumber r4 r1.1 _ e7) (wg_23 _) rfl rfl rfl (Nat.le_of_ble_eq_true rfl) (by decide) ⟨Nat.le_refl _, Nat.le_refl _⟩ rfl rfl ?_
    refine go_ls (ls2 := [some (.ref 23), some (.int x1), some (.int x2), none, none, none]) ⟨rfl, rfl, rfl, trivial⟩ ?_
    exact b_X9_saysMove_60 r r6 x1 x2 h
def f_X9_saysMove (s : gS) (x1 : Int32) (x2 : Int32) : Option gS :=
  (f_X9_saysNumber s x1).bind fun r1 =>
  (f_X9_says r1 46).bind fun r3 =>
  if inB (x1 - 1) 16 = true then
    (f_X9_saysCell r3 (r3.2 20 (x1 - 1).toNatClampNeg)).bind fun r6 =>
    (f_X9_found r6 x1 0).bind fun r8 =>
    if r8.1 ≤ 0 then
      f_X9_saysMove_38 r8.2 x1 x2
    else
      (f_X9_says r8.2 35).bind fun r11 =>
      f_X9_saysMove_38 r11 x1 x2
  else none
set_option maxHeartbeats 4000000 in
set_option maxRecDepth 100000 in
theorem b_X9_saysMove (r : gS) : ∀ (s : gS) (x1 : Int32) (x2 : Int32) , f_X9_saysMove s x1 x2 = some r → Go gTr yX9_saysMove cX9_saysMove 6 none 10 0 0 (fun r9 w9 => r9 = none ∧ w9 = wW r) 0 0 (wW s) 0 [some (.ref 23), some (.int x1), some (.int x2), none, none, none] [] := by
  intro s x1 x2 h
  rw [f_X9_saysMove] at h
  refine go_aload_n (q := 1) dX9_saysMove_0 rfl rfl ?_
  refine go_iload_n (q := 2) dX9_saysMove_1 rfl rfl ?_
  obtain ⟨r1, e2, h⟩ := g_bind h
  refine go_callV0 (q := 5) (as := [.int x1]) (rest := []) (st2 := []) (w2 := wW r1) dX9_saysMove_2 cX9_162 (t_X9_saysNumber s x1 _ e2) (wg_23 _) rfl rfl rfl (Nat.le_of_ble_eq_true rfl) (by decide) ⟨Nat.le_refl _, Nat.le_refl _⟩ rfl rfl ?_
  refine go_aload_n (q := 6) dX9_saysMove_5 rfl rfl ?_
  refine go_bipush (v := 46) (q := 8) dX9_saysMove_6 (by decide) rfl ?_
  obtain ⟨r3, e4, h⟩ := g_bind h
  refine go_callV0 (q := 11) (as := [.int 46]) (rest := []) (st2 := []) (w2 := wW r3) dX9_saysMove_8 cX9_159 (t_X9_says r1 46 _ e4) (wg_23 _) rfl rfl rfl (Nat.le_of_ble_eq_true rfl) (by decide) ⟨Nat.le_refl _, Nat.le_refl _⟩ rfl rfl ?_
  refine go_aload_n (q := 12) dX9_saysMove_11 rfl rfl ?_
  refine go_aload_n (q := 13) dX9_saysMove_12 rfl rfl ?_
  refine go_get (v := .ref 24) (q := 16) dX9_saysMove_13 fX9_22 (wg_23 _) rfl rfl ?_
  refine go_iload_n (q := 17) dX9_saysMove_16 rfl rfl ?_
  refine go_iconst (v := 1) (q := 18) dX9_saysMove_17 (by decide) rfl ?_
  refine go_isub (q := 19) dX9_saysMove_18 rfl ?_
  obtain ⟨g5, h⟩ := g_guard h
  refine go_iald (f := r3.2 20) (q := 20) dX9_saysMove_19 (wg_24 _) (inB_in g5) rfl ?_
  obtain ⟨r6, e7, h⟩ := g_bind h
  refine go_callV0 (q := 23) (as := [.int (r3.2 20 (x1 - 1).toNatClampNeg)]) (rest := []) (st2 := []) (w2 := wW r6) dX9_saysMove_20 cX9_165 (t_X9_saysCell r3 (r3.2 20 (x1 - 1).toNatClampNeg) _ e7) (wg_23 _) rfl rfl rfl (Nat.le_of_ble_eq_true rfl) (by decide) ⟨Nat.le_refl _, Nat.le_refl _⟩ rfl rfl ?_
  refine go_aload_n (q := 24) dX9_saysMove_23 rfl rfl ?_
  refine go_iload_n (q := 25) dX9_saysMove_24 rfl rfl ?_
  refine go_iconst (v := 0) (q := 26) dX9_saysMove_25 (by decide) rfl ?_
  obtain ⟨r8, e9, h⟩ := g_bind h
  refine go_callV0 (q := 29) (as := [.int x1, .int 0]) (rest := []) (st2 := [.int r8.1]) (w2 := wW r8.2) dX9_saysMove_26 cX9_168 (t_X9_found r6 x1 0 _ e9) (wg_23 _) rfl rfl rfl (Nat.le_of_ble_eq_true rfl) (by decide) ⟨Nat.le_refl _, Nat.le_refl _⟩ rfl rfl ?_
  refine go_if_le (tgt := 38) (q := 32) dX9_saysMove_29 (by decide) rfl (fun c10 => ?_) (fun c10 => ?_)
  · replace h := g_pos c10 h
    refine go_ls (ls2 := [some (.ref 23), some (.int x1), some (.int x2), none, none, none]) ⟨rfl, rfl, rfl, trivial⟩ ?_
    exact b_X9_saysMove_38 r r8.2 x1 x2 h
  · replace h := g_neg c10 h
    refine go_aload_n (q := 33) dX9_saysMove_32 rfl rfl ?_
    refine go_bipush (v := 35) (q := 35) dX9_saysMove_33 (by decide) rfl ?_
    obtain ⟨r11, e12, h⟩ := g_bind h
    refine go_callV0 (q := 38) (as := [.int 35]) (rest := []) (st2 := []) (w2 := wW r11) dX9_saysMove_35 cX9_159 (t_X9_says r8.2 35 _ e12) (wg_23 _) rfl rfl rfl (Nat.le_of_ble_eq_true rfl) (by decide) ⟨Nat.le_refl _, Nat.le_refl _⟩ rfl rfl ?_
    refine go_ls (ls2 := [some (.ref 23), some (.int x1), some (.int x2), none, none, none]) ⟨rfl, rfl, rfl, trivial⟩ ?_
    exact b_X9_saysMove_38 r r11 x1 x2 h
theorem t_X9_saysMove (s : gS) (x1 : Int32) (x2 : Int32) (r : gS) (h : f_X9_saysMove s x1 x2 = some r) : Cal 10 mX9_saysMove [.ref 23, .int x1, .int x2] (wW s) 0 0 none (wW r) := Cal.of (by decide) (g_cats rfl) (Nat.le_of_ble_eq_true rfl) (b_X9_saysMove r s x1 x2 h)
def f_X9_words (s : gS) (x1 : Int32) (x2 : Int32) : Option (Int32 × gS) :=
  (f_X9_in x1 1 (s.1 23)).bind fun r1 =>
  if r1 = 0 then
    some ((-1 : Int32), s)
  else
    (f_X9_in x2 0 1).bind fun r4 =>
    if r4 = 0 then
      some ((-1 : Int32), s)
    else
      (f_X9_saysMove (ss s 29 0) x1 x2).bind fun r7 =>
      some (r7.1 29, r7)
set_option maxHeartbeats 4000000 in
set_option maxRecDepth 100000 in
theorem b_X9_words (r : Int32 × gS) : ∀ (s : gS) (x1 : Int32) (x2 : Int32) , f_X9_words s x1 x2 = some r → Go gTr yX9_words cX9_words 3 (some .int) 11 0 0 (fun r9 w9 => r9 = some (.int r.1) ∧ w9 = wW r.2) 0 0 (wW s) 0 [some (.ref 23), some (.int x1), some (.int x2)] [] := by
  intro s x1 x2 h
  rw [f_X9_words] at h
  refine go_iload_n (q := 1) dX9_words_0 rfl rfl ?_
  refine go_iconst (v := 1) (q := 2) dX9_words_1 (by decide) rfl ?_
  refine go_aload_n (q := 3) dX9_words_2 rfl rfl ?_
  refine go_get (v := .int (s.1 23)) (q := 6) dX9_words_3 fX9_78 (wg_23 _) rfl rfl ?_
  obtain ⟨r1, e2, h⟩ := g_bind h
  refine go_callS0 (q := 9) (as := [.int x1, .int 1, .int (s.1 23)]) (rest := []) (st2 := [.int r1]) (w2 := wW s) dX9_words_6 cX9_67 (t_X9_in _ x1 1 (s.1 23) _ e2) rfl rfl (Nat.le_of_ble_eq_true rfl) (by decide) ⟨Nat.le_refl _, Nat.le_refl _⟩ rfl rfl ?_
  refine go_if_eq (tgt := 21) (q := 12) dX9_words_9 (by decide) rfl (fun c3 => ?_) (fun c3 => ?_)
  · replace h := g_pos c3 h
    refine go_iconst (v := (-1 : Int32)) (q := 22) dX9_words_21 (by decide) rfl ?_
    cases h
    exact go_iret dX9_words_22 rfl rfl (Nat.le_refl _) (Nat.le_refl _) ⟨rfl, rfl⟩
  · replace h := g_neg c3 h
    refine go_iload_n (q := 13) dX9_words_12 rfl rfl ?_
    refine go_iconst (v := 0) (q := 14) dX9_words_13 (by decide) rfl ?_
    refine go_iconst (v := 1) (q := 15) dX9_words_14 (by decide) rfl ?_
    obtain ⟨r4, e5, h⟩ := g_bind h
    refine go_callS0 (q := 18) (as := [.int x2, .int 0, .int 1]) (rest := []) (st2 := [.int r4]) (w2 := wW s) dX9_words_15 cX9_67 (t_X9_in _ x2 0 1 _ e5) rfl rfl (Nat.le_of_ble_eq_true rfl) (by decide) ⟨Nat.le_refl _, Nat.le_refl _⟩ rfl rfl ?_
    refine go_if_ne (tgt := 23) (q := 21) dX9_words_18 (by decide) rfl (fun c6 => ?_) (fun c6 => ?_)
    · replace h := g_neg c6 h
      refine go_aload_n (q := 24) dX9_words_23 rfl rfl ?_
      refine go_iconst (v := 0) (q := 25) dX9_words_24 (by decide) rfl ?_
      refine go_put (w2 := wW (ss s 29 0)) (q := 28) dX9_words_25 fX9_156 (wg_23 _) (Nat.le_of_ble_eq_true rfl) (fun _ => rfl) (fun _ => rfl) (wp_23_18 _ _) rfl ?_
      refine go_aload_n (q := 29) dX9_words_28 rfl rfl ?_
      refine go_iload_n (q := 30) dX9_words_29 rfl rfl ?_
      refine go_iload_n (q := 31) dX9_words_30 rfl rfl ?_
      obtain ⟨r7, e8, h⟩ := g_bind h
      refine go_callV0 (q := 34) (as := [.int x1, .int x2]) (rest := []) (st2 := []) (w2 := wW r7) dX9_words_31 cX9_174 (t_X9_saysMove (ss s 29 0) x1 x2 _ e8) (wg_23 _) rfl rfl rfl (Nat.le_of_ble_eq_true rfl) (by decide) ⟨Nat.le_refl _, Nat.le_refl _⟩ rfl rfl ?_
      refine go_aload_n (q := 35) dX9_words_34 rfl rfl ?_
      refine go_get (v := .int (r7.1 29)) (q := 38) dX9_words_35 fX9_156 (wg_23 _) rfl rfl ?_
      cases h
      exact go_iret dX9_words_38 rfl rfl (Nat.le_refl _) (Nat.le_refl _) ⟨rfl, rfl⟩
    · replace h := g_pos c6 h
      refine go_iconst (v := (-1 : Int32)) (q := 22) dX9_words_21 (by decide) rfl ?_
      cases h
      exact go_iret dX9_words_22 rfl rfl (Nat.le_refl _) (Nat.le_refl _) ⟨rfl, rfl⟩
theorem t_X9_words (s : gS) (x1 : Int32) (x2 : Int32) (r : Int32 × gS) (h : f_X9_words s x1 x2 = some r) : Cal 11 mX9_words [.ref 23, .int x1, .int x2] (wW s) 0 0 (some (.int r.1)) (wW r.2) := Cal.of (by decide) (g_cats rfl) (Nat.le_of_ble_eq_true rfl) (b_X9_words r s x1 x2 h)
def f_X9_tale_37 (K18 : gS → Int32 → Int32 → Option (Int32 × gS)) (s : gS) (x1 : Int32) (x2 : Int32) : Option (Int32 × gS) :=
  (f_X9_saysMove s x2 x1).bind fun r1 =>
  K18 r1 x1 (x2 + 1)
set_option maxHeartbeats 4000000 in
set_option maxRecDepth 100000 in
theorem b_X9_tale_37 (K18 : gS → Int32 → Int32 → Option (Int32 × gS)) (r : Int32 × gS) (hK18 : ∀ (s : gS) (x1 : Int32) (x2 : Int32) , K18 s x1 x2 = some r → Go gTr yX9_tale cX9_tale 3 (some .int) 11 0 0 (fun r9 w9 => r9 = some (.int r.1) ∧ w9 = wW r.2) 0 0 (wW s) 18 [some (.ref 23), some (.int x1), some (.int x2)] []) : ∀ (s : gS) (x1 : Int32) (x2 : Int32) , f_X9_tale_37 K18 s x1 x2 = some r → Go gTr yX9_tale cX9_tale 3 (some .int) 11 0 0 (fun r9 w9 => r9 = some (.int r.1) ∧ w9 = wW r.2) 0 0 (wW s) 37 [some (.ref 23), some (.int x1), some (.int x2)] [] := by
  intro s x1 x2 h
  rw [f_X9_tale_37] at h
  refine go_aload_n (q := 38) dX9_tale_37 rfl rfl ?_
  refine go_iload_n (q := 39) dX9_tale_38 rfl rfl ?_
  refine go_iload_n (q := 40) dX9_tale_39 rfl rfl ?_
  obtain ⟨r1, e2, h⟩ := g_bind h
  refine go_callV0 (q := 43) (as := [.int x2, .int x1]) (rest := []) (st2 := []) (w2 := wW r1) dX9_tale_40 cX9_174 (t_X9_saysMove s x2 x1 _ e2) (wg_23 _) rfl rfl rfl (Nat.le_of_ble_eq_true rfl) (by decide) ⟨Nat.le_refl _, Nat.le_refl _⟩ rfl rfl ?_
  refine go_iinc (v := x2 + 1) (ls2 := [some (.ref 23), some (.int x1), some (.int (x2 + 1))]) (q := 46) dX9_tale_43 (by decide) rfl rfl rfl rfl ?_
  refine go_goto (tgt := 18) dX9_tale_46 (by decide) ?_
  refine go_ls (ls2 := [some (.ref 23), some (.int x1), some (.int (x2 + 1))]) ⟨rfl, rfl, rfl, trivial⟩ ?_
  exact hK18 r1 x1 (x2 + 1) h
def f_X9_tale_18 : Nat → gS → Int32 → Int32 → Option (Int32 × gS)
  | 0, _, _, _ => none
  | φ + 1, s, x1, x2 =>
    if (s.1 23) < x2 then
      some (s.1 29, s)
    else
      if x2 ≤ 1 then
        f_X9_tale_37 (f_X9_tale_18 φ) s x1 x2
      else
        (f_X9_says s 32).bind fun r3 =>
        f_X9_tale_37 (f_X9_tale_18 φ) r3 x1 x2
set_option maxHeartbeats 4000000 in
set_option maxRecDepth 100000 in
theorem b_X9_tale_18 (r : Int32 × gS) : ∀ (φ : Nat) (s : gS) (x1 : Int32) (x2 : Int32) , f_X9_tale_18 φ s x1 x2 = some r → Go gTr yX9_tale cX9_tale 3 (some .int) 11 0 0 (fun r9 w9 => r9 = some (.int r.1) ∧ w9 = wW r.2) 0 0 (wW s) 18 [some (.ref 23), some (.int x1), some (.int x2)] [] := by
  intro φ
  induction φ with
  | zero =>
    intro s x1 x2 h
    exact absurd h (by intro h0; cases h0)
  | succ φ ih =>
    intro s x1 x2 h
    rw [f_X9_tale_18] at h
    refine go_iload_n (q := 19) dX9_tale_18 rfl rfl ?_
    refine go_aload_n (q := 20) dX9_tale_19 rfl rfl ?_
    refine go_get (v := .int (s.1 23)) (q := 23) dX9_tale_20 fX9_78 (wg_23 _) rfl rfl ?_
    refine go_icmp_gt (tgt := 49) (q := 26) dX9_tale_23 (by decide) rfl (fun c1 => ?_) (fun c1 => ?_)
    · replace h := g_pos c1 h
      refine go_aload_n (q := 50) dX9_tale_49 rfl rfl ?_
      refine go_get (v := .int (s.1 29)) (q := 53) dX9_tale_50 fX9_156 (wg_23 _) rfl rfl ?_
      cases h
      exact go_iret dX9_tale_53 rfl rfl (Nat.le_refl _) (Nat.le_refl _) ⟨rfl, rfl⟩
    · replace h := g_neg c1 h
      refine go_iload_n (q := 27) dX9_tale_26 rfl rfl ?_
      refine go_iconst (v := 1) (q := 28) dX9_tale_27 (by decide) rfl ?_
      refine go_icmp_le (tgt := 37) (q := 31) dX9_tale_28 (by decide) rfl (fun c2 => ?_) (fun c2 => ?_)
      · replace h := g_pos c2 h
        refine go_ls (ls2 := [some (.ref 23), some (.int x1), some (.int x2)]) ⟨rfl, rfl, rfl, trivial⟩ ?_
        exact b_X9_tale_37 (f_X9_tale_18 φ) r (fun s x1 x2 h => ih s x1 x2 h) s x1 x2 h
      · replace h := g_neg c2 h
        refine go_aload_n (q := 32) dX9_tale_31 rfl rfl ?_
        refine go_bipush (v := 32) (q := 34) dX9_tale_32 (by decide) rfl ?_
        obtain ⟨r3, e4, h⟩ := g_bind h
        refine go_callV0 (q := 37) (as := [.int 32]) (rest := []) (st2 := []) (w2 := wW r3) dX9_tale_34 cX9_159 (t_X9_says s 32 _ e4) (wg_23 _) rfl rfl rfl (Nat.le_of_ble_eq_true rfl) (by decide) ⟨Nat.le_refl _, Nat.le_refl _⟩ rfl rfl ?_
        refine go_ls (ls2 := [some (.ref 23), some (.int x1), some (.int x2)]) ⟨rfl, rfl, rfl, trivial⟩ ?_
        exact b_X9_tale_37 (f_X9_tale_18 φ) r (fun s x1 x2 h => ih s x1 x2 h) r3 x1 x2 h
def f_X9_tale (s : gS) (x1 : Int32) : Option (Int32 × gS) :=
  (f_X9_in x1 0 1).bind fun r1 =>
  if r1 = 0 then
    some ((-1 : Int32), s)
  else
    f_X9_tale_18 gφ (ss s 29 0) x1 1
set_option maxHeartbeats 4000000 in
set_option maxRecDepth 100000 in
theorem b_X9_tale (r : Int32 × gS) : ∀ (s : gS) (x1 : Int32) , f_X9_tale s x1 = some r → Go gTr yX9_tale cX9_tale 3 (some .int) 11 0 0 (fun r9 w9 => r9 = some (.int r.1) ∧ w9 = wW r.2) 0 0 (wW s) 0 [some (.ref 23), some (.int x1), none] [] := by
  intro s x1 h
  rw [f_X9_tale] at h
  refine go_iload_n (q := 1) dX9_tale_0 rfl rfl ?_
  refine go_iconst (v := 0) (q := 2) dX9_tale_1 (by decide) rfl ?_
  refine go_iconst (v := 1) (q := 3) dX9_tale_2 (by decide) rfl ?_
  obtain ⟨r1, e2, h⟩ := g_bind h
  refine go_callS0 (q := 6) (as := [.int x1, .int 0, .int 1]) (rest := []) (st2 := [.int r1]) (w2 := wW s) dX9_tale_3 cX9_67 (t_X9_in _ x1 0 1 _ e2) rfl rfl (Nat.le_of_ble_eq_true rfl) (by decide) ⟨Nat.le_refl _, Nat.le_refl _⟩ rfl rfl ?_
  refine go_if_ne (tgt := 11) (q := 9) dX9_tale_6 (by decide) rfl (fun c3 => ?_) (fun c3 => ?_)
  · replace h := g_neg c3 h
    refine go_aload_n (q := 12) dX9_tale_11 rfl rfl ?_
    refine go_iconst (v := 0) (q := 13) dX9_tale_12 (by decide) rfl ?_
    refine go_put (w2 := wW (ss s 29 0)) (q := 16) dX9_tale_13 fX9_156 (wg_23 _) (Nat.le_of_ble_eq_true rfl) (fun _ => rfl) (fun _ => rfl) (wp_23_18 _ _) rfl ?_
    refine go_iconst (v := 1) (q := 17) dX9_tale_16 (by decide) rfl ?_
    refine go_istore_n (ls2 := [some (.ref 23), some (.int x1), some (.int 1)]) (q := 18) dX9_tale_17 (by decide) rfl rfl ?_
    refine go_ls (ls2 := [some (.ref 23), some (.int x1), some (.int 1)]) ⟨rfl, rfl, rfl, trivial⟩ ?_
    exact b_X9_tale_18 r gφ (ss s 29 0) x1 1 h
  · replace h := g_pos c3 h
    refine go_iconst (v := (-1 : Int32)) (q := 10) dX9_tale_9 (by decide) rfl ?_
    cases h
    exact go_iret dX9_tale_10 rfl rfl (Nat.le_refl _) (Nat.le_refl _) ⟨rfl, rfl⟩
theorem t_X9_tale (s : gS) (x1 : Int32) (r : Int32 × gS) (h : f_X9_tale s x1 = some r) : Cal 11 mX9_tale [.ref 23, .int x1] (wW s) 0 0 (some (.int r.1)) (wW r.2) := Cal.of (by decide) (g_cats rfl) (Nat.le_of_ble_eq_true rfl) (b_X9_tale r s x1 h)
def f_X9_octet (s : gS) (x1 : Int32) : Option Int32 :=
  (f_X9_in x1 0 ((s.1 29) - 1)).bind fun r1 =>
  if r1 = 0 then
    some (-1 : Int32)
  else
    if inB x1 600 = true then
      some (s.2 28 x1.toNatClampNeg)
    else none
set_option maxHeartbeats 4000000 in
set_option maxRecDepth 100000 in
theorem b_X9_octet (s : gS) (r : Int32) : ∀ (x1 : Int32) , f_X9_octet s x1 = some r → Go gTr yX9_octet cX9_octet 2 (some .int) 2 0 0 (fun r9 w9 => r9 = some (.int r) ∧ w9 = wW s) 0 0 (wW s) 0 [some (.ref 23), some (.int x1)] [] := by
  intro x1 h
  rw [f_X9_octet] at h
  refine go_iload_n (q := 1) dX9_octet_0 rfl rfl ?_
  refine go_iconst (v := 0) (q := 2) dX9_octet_1 (by decide) rfl ?_
  refine go_aload_n (q := 3) dX9_octet_2 rfl rfl ?_
  refine go_get (v := .int (s.1 29)) (q := 6) dX9_octet_3 fX9_156 (wg_23 _) rfl rfl ?_
  refine go_iconst (v := 1) (q := 7) dX9_octet_6 (by decide) rfl ?_
  refine go_isub (q := 8) dX9_octet_7 rfl ?_
  obtain ⟨r1, e2, h⟩ := g_bind h
  refine go_callS0 (q := 11) (as := [.int x1, .int 0, .int ((s.1 29) - 1)]) (rest := []) (st2 := [.int r1]) (w2 := wW s) dX9_octet_8 cX9_67 (t_X9_in _ x1 0 ((s.1 29) - 1) _ e2) rfl rfl (Nat.le_of_ble_eq_true rfl) (by decide) ⟨Nat.le_refl _, Nat.le_refl _⟩ rfl rfl ?_
  refine go_if_eq (tgt := 23) (q := 14) dX9_octet_11 (by decide) rfl (fun c3 => ?_) (fun c3 => ?_)
  · replace h := g_pos c3 h
    refine go_iconst (v := (-1 : Int32)) (q := 24) dX9_octet_23 (by decide) rfl ?_
    cases h
    exact go_iret dX9_octet_24 rfl rfl (Nat.le_refl _) (Nat.le_refl _) ⟨rfl, rfl⟩
  · replace h := g_neg c3 h
    refine go_aload_n (q := 15) dX9_octet_14 rfl rfl ?_
    refine go_get (v := .ref 32) (q := 18) dX9_octet_15 fX9_48 (wg_23 _) rfl rfl ?_
    refine go_iload_n (q := 19) dX9_octet_18 rfl rfl ?_
    obtain ⟨g4, h⟩ := g_guard h
    refine go_bald (f := s.2 28) (q := 20) dX9_octet_19 (wg_32 _) (inB_in g4) rfl ?_
    refine go_goto (tgt := 24) dX9_octet_20 (by decide) ?_
    cases h
    exact go_iret dX9_octet_24 rfl rfl (Nat.le_refl _) (Nat.le_refl _) ⟨rfl, rfl⟩
theorem t_X9_octet (s : gS) (x1 : Int32) (r : Int32) (h : f_X9_octet s x1 = some r) : Cal 2 mX9_octet [.ref 23, .int x1] (wW s) 0 0 (some (.int r)) (wW s) := Cal.of (by decide) (g_cats rfl) (Nat.le_of_ble_eq_true rfl) (b_X9_octet s r x1 h)
def f_X9_worth_18 : Nat → gS → Int32 → Int32 → Int32 → Option (Int32 × gS)
  | 0, _, _, _, _ => none
  | φ + 1, s, x1, x2, x3 =>
    if 6 ≤ x3 then
      some (x2, s)
    else
      if inB x3 6 = true then
        (f_X9_found s x1 x3).bind fun r3 =>
        f_X9_worth_18 φ r3.2 x1 (x2 + ((s.2 21 x3.toNatClampNeg) * r3.1)) (x3 + 1)
      else none
set_option maxHeartbeats 4000000 in
set_option maxRecDepth 100000 in
theorem b_X9_worth_18 (r : Int32 × gS) : ∀ (φ : Nat) (s : gS) (x1 : Int32) (x2 : Int32) (x3 : Int32) , f_X9_worth_18 φ s x1 x2 x3 = some r → Go gTr yX9_worth cX9_worth 4 (some .int) 10 0 0 (fun r9 w9 => r9 = some (.int r.1) ∧ w9 = wW r.2) 0 0 (wW s) 18 [some (.ref 23), some (.int x1), some (.int x2), some (.int x3)] [] := by
  intro φ
  induction φ with
  | zero =>
    intro s x1 x2 x3 h
    exact absurd h (by intro h0; cases h0)
  | succ φ ih =>
    intro s x1 x2 x3 h
    rw [f_X9_worth_18] at h
    refine go_iload_n (q := 19) dX9_worth_18 rfl rfl ?_
    refine go_bipush (v := 6) (q := 21) dX9_worth_19 (by decide) rfl ?_
    refine go_icmp_ge (tgt := 46) (q := 24) dX9_worth_21 (by decide) rfl (fun c1 => ?_) (fun c1 => ?_)
    · replace h := g_pos c1 h
      refine go_iload_n (q := 47) dX9_worth_46 rfl rfl ?_
      cases h
      exact go_iret dX9_worth_47 rfl rfl (Nat.le_refl _) (Nat.le_refl _) ⟨rfl, rfl⟩
    · replace h := g_neg c1 h
      refine go_iload_n (q := 25) dX9_worth_24 rfl rfl ?_
      refine go_aload_n (q := 26) dX9_worth_25 rfl rfl ?_
      refine go_get (v := .ref 25) (q := 29) dX9_worth_26 fX9_26 (wg_23 _) rfl rfl ?_
      refine go_iload_n (q := 30) dX9_worth_29 rfl rfl ?_
      obtain ⟨g2, h⟩ := g_guard h
      refine go_iald (f := s.2 21) (q := 31) dX9_worth_30 (wg_25 _) (inB_in g2) rfl ?_
      refine go_aload_n (q := 32) dX9_worth_31 rfl rfl ?_
      refine go_iload_n (q := 33) dX9_worth_32 rfl rfl ?_
      refine go_iload_n (q := 34) dX9_worth_33 rfl rfl ?_
      obtain ⟨r3, e4, h⟩ := g_bind h
      refine go_callV0 (q := 37) (as := [.int x1, .int x3]) (rest := [.int (s.2 21 x3.toNatClampNeg), .int x2]) (st2 := [.int r3.1, .int (s.2 21 x3.toNatClampNeg), .int x2]) (w2 := wW r3.2) dX9_worth_34 cX9_168 (t_X9_found s x1 x3 _ e4) (wg_23 _) rfl rfl rfl (Nat.le_of_ble_eq_true rfl) (by decide) ⟨Nat.le_refl _, Nat.le_refl _⟩ rfl rfl ?_
      refine go_imul (q := 38) dX9_worth_37 rfl ?_
      refine go_iadd (q := 39) dX9_worth_38 rfl ?_
      refine go_istore_n (ls2 := [some (.ref 23), some (.int x1), some (.int (x2 + ((s.2 21 x3.toNatClampNeg) * r3.1))), some (.int x3)]) (q := 40) dX9_worth_39 (by decide) rfl rfl ?_
      refine go_iinc (v := x3 + 1) (ls2 := [some (.ref 23), some (.int x1), some (.int (x2 + ((s.2 21 x3.toNatClampNeg) * r3.1))), some (.int (x3 + 1))]) (q := 43) dX9_worth_40 (by decide) rfl rfl rfl rfl ?_
      refine go_goto (tgt := 18) dX9_worth_43 (by decide) ?_
      refine go_ls (ls2 := [some (.ref 23), some (.int x1), some (.int (x2 + ((s.2 21 x3.toNatClampNeg) * r3.1))), some (.int (x3 + 1))]) ⟨rfl, rfl, rfl, rfl, trivial⟩ ?_
      exact ih r3.2 x1 (x2 + ((s.2 21 x3.toNatClampNeg) * r3.1)) (x3 + 1) h
def f_X9_worth (s : gS) (x1 : Int32) : Option (Int32 × gS) :=
  (f_X9_in x1 1 (s.1 23)).bind fun r1 =>
  if r1 = 0 then
    some ((-1 : Int32), s)
  else
    f_X9_worth_18 gφ s x1 0 0
set_option maxHeartbeats 4000000 in
set_option maxRecDepth 100000 in
theorem b_X9_worth (r : Int32 × gS) : ∀ (s : gS) (x1 : Int32) , f_X9_worth s x1 = some r → Go gTr yX9_worth cX9_worth 4 (some .int) 10 0 0 (fun r9 w9 => r9 = some (.int r.1) ∧ w9 = wW r.2) 0 0 (wW s) 0 [some (.ref 23), some (.int x1), none, none] [] := by
  intro s x1 h
  rw [f_X9_worth] at h
  refine go_iload_n (q := 1) dX9_worth_0 rfl rfl ?_
  refine go_iconst (v := 1) (q := 2) dX9_worth_1 (by decide) rfl ?_
  refine go_aload_n (q := 3) dX9_worth_2 rfl rfl ?_
  refine go_get (v := .int (s.1 23)) (q := 6) dX9_worth_3 fX9_78 (wg_23 _) rfl rfl ?_
  obtain ⟨r1, e2, h⟩ := g_bind h
  refine go_callS0 (q := 9) (as := [.int x1, .int 1, .int (s.1 23)]) (rest := []) (st2 := [.int r1]) (w2 := wW s) dX9_worth_6 cX9_67 (t_X9_in _ x1 1 (s.1 23) _ e2) rfl rfl (Nat.le_of_ble_eq_true rfl) (by decide) ⟨Nat.le_refl _, Nat.le_refl _⟩ rfl rfl ?_
  refine go_if_ne (tgt := 14) (q := 12) dX9_worth_9 (by decide) rfl (fun c3 => ?_) (fun c3 => ?_)
  · replace h := g_neg c3 h
    refine go_iconst (v := 0) (q := 15) dX9_worth_14 (by decide) rfl ?_
    refine go_istore_n (ls2 := [some (.ref 23), some (.int x1), some (.int 0), none]) (q := 16) dX9_worth_15 (by decide) rfl rfl ?_
    refine go_iconst (v := 0) (q := 17) dX9_worth_16 (by decide) rfl ?_
    refine go_istore_n (ls2 := [some (.ref 23), some (.int x1), some (.int 0), some (.int 0)]) (q := 18) dX9_worth_17 (by decide) rfl rfl ?_
    refine go_ls (ls2 := [some (.ref 23), some (.int x1), some (.int 0), some (.int 0)]) ⟨rfl, rfl, rfl, rfl, trivial⟩ ?_
    exact b_X9_worth_18 r gφ s x1 0 0 h
  · replace h := g_pos c3 h
    refine go_iconst (v := (-1 : Int32)) (q := 13) dX9_worth_12 (by decide) rfl ?_
    cases h
    exact go_iret dX9_worth_13 rfl rfl (Nat.le_refl _) (Nat.le_refl _) ⟨rfl, rfl⟩
theorem t_X9_worth (s : gS) (x1 : Int32) (r : Int32 × gS) (h : f_X9_worth s x1 = some r) : Cal 10 mX9_worth [.ref 23, .int x1] (wW s) 0 0 (some (.int r.1)) (wW r.2) := Cal.of (by decide) (g_cats rfl) (Nat.le_of_ble_eq_true rfl) (b_X9_worth r s x1 h)
def f_X9_bytesOf_69 (s : gS) (x1 : Int32) (t0 : Int32) (t1 : Int32) : Option (Int32 × gS) :=
  (f_X9_found s x1 4).bind fun r1 =>
  if r1.1 ≤ 0 then
    some ((t0 + t1) + 0, r1.2)
  else
    some ((t0 + t1) + 3, r1.2)
set_option maxHeartbeats 4000000 in
set_option maxRecDepth 100000 in
theorem b_X9_bytesOf_69 (r : Int32 × gS) : ∀ (s : gS) (x1 : Int32) (t0 : Int32) (t1 : Int32) , f_X9_bytesOf_69 s x1 t0 t1 = some r → Go gTr yX9_bytesOf cX9_bytesOf 4 (some .int) 10 0 0 (fun r9 w9 => r9 = some (.int r.1) ∧ w9 = wW r.2) 0 0 (wW s) 69 [some (.ref 23), some (.int x1), none, none] [.int t1, .int t0] := by
  intro s x1 t0 t1 h
  rw [f_X9_bytesOf_69] at h
  refine go_iadd (q := 70) dX9_bytesOf_69 rfl ?_
  refine go_aload_n (q := 71) dX9_bytesOf_70 rfl rfl ?_
  refine go_iload_n (q := 72) dX9_bytesOf_71 rfl rfl ?_
  refine go_iconst (v := 4) (q := 73) dX9_bytesOf_72 (by decide) rfl ?_
  obtain ⟨r1, e2, h⟩ := g_bind h
  refine go_callV0 (q := 76) (as := [.int x1, .int 4]) (rest := [.int (t0 + t1)]) (st2 := [.int r1.1, .int (t0 + t1)]) (w2 := wW r1.2) dX9_bytesOf_73 cX9_168 (t_X9_found s x1 4 _ e2) (wg_23 _) rfl rfl rfl (Nat.le_of_ble_eq_true rfl) (by decide) ⟨Nat.le_refl _, Nat.le_refl _⟩ rfl rfl ?_
  refine go_if_le (tgt := 83) (q := 79) dX9_bytesOf_76 (by decide) rfl (fun c3 => ?_) (fun c3 => ?_)
  · replace h := g_pos c3 h
    refine go_iconst (v := 0) (q := 84) dX9_bytesOf_83 (by decide) rfl ?_
    refine go_iadd (q := 85) dX9_bytesOf_84 rfl ?_
    cases h
    exact go_iret dX9_bytesOf_85 rfl rfl (Nat.le_refl _) (Nat.le_refl _) ⟨rfl, rfl⟩
  · replace h := g_neg c3 h
    refine go_iconst (v := 3) (q := 80) dX9_bytesOf_79 (by decide) rfl ?_
    refine go_goto (tgt := 84) dX9_bytesOf_80 (by decide) ?_
    refine go_iadd (q := 85) dX9_bytesOf_84 rfl ?_
    cases h
    exact go_iret dX9_bytesOf_85 rfl rfl (Nat.le_refl _) (Nat.le_refl _) ⟨rfl, rfl⟩
def f_X9_bytesOf_18 (s : gS) (x1 : Int32) (x2 : Int32) (t0 : Int32) : Option (Int32 × gS) :=
  (f_X9_found s x1 0).bind fun r1 =>
  (f_X9_found r1.2 x1 2).bind fun r3 =>
  (f_X9_found r3.2 x1 3).bind fun r5 =>
  (f_X9_found r5.2 x1 5).bind fun r7 =>
  if x2 = 0 then
    f_X9_bytesOf_69 r7.2 x1 (((((t0 + 3) + r1.1) + r3.1) + r5.1) + r7.1) 0
  else
    if x2 < 10 then
      f_X9_bytesOf_69 r7.2 x1 (((((t0 + 3) + r1.1) + r3.1) + r5.1) + r7.1) 2
    else
      f_X9_bytesOf_69 r7.2 x1 (((((t0 + 3) + r1.1) + r3.1) + r5.1) + r7.1) 3
set_option maxHeartbeats 4000000 in
set_option maxRecDepth 100000 in
theorem b_X9_bytesOf_18 (r : Int32 × gS) : ∀ (s : gS) (x1 : Int32) (x2 : Int32) (t0 : Int32) , f_X9_bytesOf_18 s x1 x2 t0 = some r → Go gTr yX9_bytesOf cX9_bytesOf 4 (some .int) 10 0 0 (fun r9 w9 => r9 = some (.int r.1) ∧ w9 = wW r.2) 0 0 (wW s) 18 [some (.ref 23), some (.int x1), some (.int x2), none] [.int t0] := by
  intro s x1 x2 t0 h
  rw [f_X9_bytesOf_18] at h
  refine go_iconst (v := 3) (q := 19) dX9_bytesOf_18 (by decide) rfl ?_
  refine go_iadd (q := 20) dX9_bytesOf_19 rfl ?_
  refine go_aload_n (q := 21) dX9_bytesOf_20 rfl rfl ?_
  refine go_iload_n (q := 22) dX9_bytesOf_21 rfl rfl ?_
  refine go_iconst (v := 0) (q := 23) dX9_bytesOf_22 (by decide) rfl ?_
  obtain ⟨r1, e2, h⟩ := g_bind h
  refine go_callV0 (q := 26) (as := [.int x1, .int 0]) (rest := [.int (t0 + 3)]) (st2 := [.int r1.1, .int (t0 + 3)]) (w2 := wW r1.2) dX9_bytesOf_23 cX9_168 (t_X9_found s x1 0 _ e2) (wg_23 _) rfl rfl rfl (Nat.le_of_ble_eq_true rfl) (by decide) ⟨Nat.le_refl _, Nat.le_refl _⟩ rfl rfl ?_
  refine go_iadd (q := 27) dX9_bytesOf_26 rfl ?_
  refine go_aload_n (q := 28) dX9_bytesOf_27 rfl rfl ?_
  refine go_iload_n (q := 29) dX9_bytesOf_28 rfl rfl ?_
  refine go_iconst (v := 2) (q := 30) dX9_bytesOf_29 (by decide) rfl ?_
  obtain ⟨r3, e4, h⟩ := g_bind h
  refine go_callV0 (q := 33) (as := [.int x1, .int 2]) (rest := [.int ((t0 + 3) + r1.1)]) (st2 := [.int r3.1, .int ((t0 + 3) + r1.1)]) (w2 := wW r3.2) dX9_bytesOf_30 cX9_168 (t_X9_found r1.2 x1 2 _ e4) (wg_23 _) rfl rfl rfl (Nat.le_of_ble_eq_true rfl) (by decide) ⟨Nat.le_refl _, Nat.le_refl _⟩ rfl rfl ?_
  refine go_iadd (q := 34) dX9_bytesOf_33 rfl ?_
  refine go_aload_n (q := 35) dX9_bytesOf_34 rfl rfl ?_
  refine go_iload_n (q := 36) dX9_bytesOf_35 rfl rfl ?_
  refine go_iconst (v := 3) (q := 37) dX9_bytesOf_36 (by decide) rfl ?_
  obtain ⟨r5, e6, h⟩ := g_bind h
  refine go_callV0 (q := 40) (as := [.int x1, .int 3]) (rest := [.int (((t0 + 3) + r1.1) + r3.1)]) (st2 := [.int r5.1, .int (((t0 + 3) + r1.1) + r3.1)]) (w2 := wW r5.2) dX9_bytesOf_37 cX9_168 (t_X9_found r3.2 x1 3 _ e6) (wg_23 _) rfl rfl rfl (Nat.le_of_ble_eq_true rfl) (by decide) ⟨Nat.le_refl _, Nat.le_refl _⟩ rfl rfl ?_
  refine go_iadd (q := 41) dX9_bytesOf_40 rfl ?_
  refine go_aload_n (q := 42) dX9_bytesOf_41 rfl rfl ?_
  refine go_iload_n (q := 43) dX9_bytesOf_42 rfl rfl ?_
  refine go_iconst (v := 5) (q := 44) dX9_bytesOf_43 (by decide) rfl ?_
  obtain ⟨r7, e8, h⟩ := g_bind h
  refine go_callV0 (q := 47) (as := [.int x1, .int 5]) (rest := [.int ((((t0 + 3) + r1.1) + r3.1) + r5.1)]) (st2 := [.int r7.1, .int ((((t0 + 3) + r1.1) + r3.1) + r5.1)]) (w2 := wW r7.2) dX9_bytesOf_44 cX9_168 (t_X9_found r5.2 x1 5 _ e8) (wg_23 _) rfl rfl rfl (Nat.le_of_ble_eq_true rfl) (by decide) ⟨Nat.le_refl _, Nat.le_refl _⟩ rfl rfl ?_
  refine go_iadd (q := 48) dX9_bytesOf_47 rfl ?_
  refine go_istore_n (ls2 := [some (.ref 23), some (.int x1), some (.int x2), some (.int (((((t0 + 3) + r1.1) + r3.1) + r5.1) + r7.1))]) (q := 49) dX9_bytesOf_48 (by decide) rfl rfl ?_
  refine go_iload_n (q := 50) dX9_bytesOf_49 rfl rfl ?_
  refine go_iload_n (q := 51) dX9_bytesOf_50 rfl rfl ?_
  refine go_if_ne (tgt := 58) (q := 54) dX9_bytesOf_51 (by decide) rfl (fun c9 => ?_) (fun c9 => ?_)
  · replace h := g_neg c9 h
    refine go_iload_n (q := 59) dX9_bytesOf_58 rfl rfl ?_
    refine go_bipush (v := 10) (q := 61) dX9_bytesOf_59 (by decide) rfl ?_
    refine go_icmp_lt (tgt := 68) (q := 64) dX9_bytesOf_61 (by decide) rfl (fun c10 => ?_) (fun c10 => ?_)
    · replace h := g_pos c10 h
      refine go_iconst (v := 2) (q := 69) dX9_bytesOf_68 (by decide) rfl ?_
      refine go_ls (ls2 := [some (.ref 23), some (.int x1), none, none]) ⟨rfl, rfl, trivial⟩ ?_
      exact b_X9_bytesOf_69 r r7.2 x1 (((((t0 + 3) + r1.1) + r3.1) + r5.1) + r7.1) 2 h
    · replace h := g_neg c10 h
      refine go_iconst (v := 3) (q := 65) dX9_bytesOf_64 (by decide) rfl ?_
      refine go_goto (tgt := 69) dX9_bytesOf_65 (by decide) ?_
      refine go_ls (ls2 := [some (.ref 23), some (.int x1), none, none]) ⟨rfl, rfl, trivial⟩ ?_
      exact b_X9_bytesOf_69 r r7.2 x1 (((((t0 + 3) + r1.1) + r3.1) + r5.1) + r7.1) 3 h
  · replace h := g_pos c9 h
    refine go_iconst (v := 0) (q := 55) dX9_bytesOf_54 (by decide) rfl ?_
    refine go_goto (tgt := 69) dX9_bytesOf_55 (by decide) ?_
    refine go_ls (ls2 := [some (.ref 23), some (.int x1), none, none]) ⟨rfl, rfl, trivial⟩ ?_
    exact b_X9_bytesOf_69 r r7.2 x1 (((((t0 + 3) + r1.1) + r3.1) + r5.1) + r7.1) 0 h
def f_X9_bytesOf (s : gS) (x1 : Int32) : Option (Int32 × gS) :=
  (f_X9_found s x1 1).bind fun r1 =>
  if x1 < 10 then
    f_X9_bytesOf_18 r1.2 x1 r1.1 1
  else
    f_X9_bytesOf_18 r1.2 x1 r1.1 2
set_option maxHeartbeats 4000000 in
set_option maxRecDepth 100000 in
theorem b_X9_bytesOf (r : Int32 × gS) : ∀ (s : gS) (x1 : Int32) , f_X9_bytesOf s x1 = some r → Go gTr yX9_bytesOf cX9_bytesOf 4 (some .int) 10 0 0 (fun r9 w9 => r9 = some (.int r.1) ∧ w9 = wW r.2) 0 0 (wW s) 0 [some (.ref 23), some (.int x1), none, none] [] := by
  intro s x1 h
  rw [f_X9_bytesOf] at h
  refine go_aload_n (q := 1) dX9_bytesOf_0 rfl rfl ?_
  refine go_iload_n (q := 2) dX9_bytesOf_1 rfl rfl ?_
  refine go_iconst (v := 1) (q := 3) dX9_bytesOf_2 (by decide) rfl ?_
  obtain ⟨r1, e2, h⟩ := g_bind h
  refine go_callV0 (q := 6) (as := [.int x1, .int 1]) (rest := []) (st2 := [.int r1.1]) (w2 := wW r1.2) dX9_bytesOf_3 cX9_168 (t_X9_found s x1 1 _ e2) (wg_23 _) rfl rfl rfl (Nat.le_of_ble_eq_true rfl) (by decide) ⟨Nat.le_refl _, Nat.le_refl _⟩ rfl rfl ?_
  refine go_istore_n (ls2 := [some (.ref 23), some (.int x1), some (.int r1.1), none]) (q := 7) dX9_bytesOf_6 (by decide) rfl rfl ?_
  refine go_iload_n (q := 8) dX9_bytesOf_7 rfl rfl ?_
  refine go_bipush (v := 10) (q := 10) dX9_bytesOf_8 (by decide) rfl ?_
  refine go_icmp_lt (tgt := 17) (q := 13) dX9_bytesOf_10 (by decide) rfl (fun c3 => ?_) (fun c3 => ?_)
  · replace h := g_pos c3 h
    refine go_iconst (v := 1) (q := 18) dX9_bytesOf_17 (by decide) rfl ?_
    refine go_ls (ls2 := [some (.ref 23), some (.int x1), some (.int r1.1), none]) ⟨rfl, rfl, rfl, trivial⟩ ?_
    exact b_X9_bytesOf_18 r r1.2 x1 r1.1 1 h
  · replace h := g_neg c3 h
    refine go_iconst (v := 2) (q := 14) dX9_bytesOf_13 (by decide) rfl ?_
    refine go_goto (tgt := 18) dX9_bytesOf_14 (by decide) ?_
    refine go_ls (ls2 := [some (.ref 23), some (.int x1), some (.int r1.1), none]) ⟨rfl, rfl, rfl, trivial⟩ ?_
    exact b_X9_bytesOf_18 r r1.2 x1 r1.1 2 h
theorem t_X9_bytesOf (s : gS) (x1 : Int32) (r : Int32 × gS) (h : f_X9_bytesOf s x1 = some r) : Cal 10 mX9_bytesOf [.ref 23, .int x1] (wW s) 0 0 (some (.int r.1)) (wW r.2) := Cal.of (by decide) (g_cats rfl) (Nat.le_of_ble_eq_true rfl) (b_X9_bytesOf r s x1 h)
def f_X9_weighs_81 (K7 : gS → Int32 → Option gS) (s : gS) (x1 : Int32) : Option gS :=
  K7 s (x1 + 1)
set_option maxHeartbeats 4000000 in
set_option maxRecDepth 100000 in
theorem b_X9_weighs_81 (K7 : gS → Int32 → Option gS) (r : gS) (hK7 : ∀ (s : gS) (x1 : Int32) , K7 s x1 = some r → Go gTr yX9_weighs cX9_weighs 3 none 11 0 0 (fun r9 w9 => r9 = none ∧ w9 = wW r) 0 0 (wW s) 7 [some (.ref 23), some (.int x1), none] []) : ∀ (s : gS) (x1 : Int32) , f_X9_weighs_81 K7 s x1 = some r → Go gTr yX9_weighs cX9_weighs 3 none 11 0 0 (fun r9 w9 => r9 = none ∧ w9 = wW r) 0 0 (wW s) 81 [some (.ref 23), some (.int x1), none] [] := by
  intro s x1 h
  rw [f_X9_weighs_81] at h
  refine go_iinc (v := x1 + 1) (ls2 := [some (.ref 23), some (.int (x1 + 1)), none]) (q := 84) dX9_weighs_81 (by decide) rfl rfl rfl rfl ?_
  refine go_goto (tgt := 7) dX9_weighs_84 (by decide) ?_
  refine go_ls (ls2 := [some (.ref 23), some (.int (x1 + 1)), none]) ⟨rfl, rfl, trivial⟩ ?_
  exact hK7 s (x1 + 1) h
def f_X9_weighs_7 : Nat → gS → Int32 → Option gS
  | 0, _, _ => none
  | φ + 1, s, x1 =>
    if (s.1 23) < x1 then
      some s
    else
      if 12 ≤ (s.1 30) then
        some s
      else
        (f_X9_worth s x1).bind fun r3 =>
        if r3.1 = 0 then
          f_X9_weighs_81 (f_X9_weighs_7 φ) r3.2 x1
        else
          if inB (r3.2.1 30) 12 = true then
            if inB (r3.2.1 30) 12 = true then
              (f_X9_bytesOf (sa (sa r3.2 29 ((r3.2.1 30).toNatClampNeg) x1) 30 ((r3.2.1 30).toNatClampNeg) r3.1) x1).bind fun r8 =>
              if inB (r3.2.1 30) 12 = true then
                f_X9_weighs_81 (f_X9_weighs_7 φ) (ss (sa r8.2 31 ((r3.2.1 30).toNatClampNeg) r8.1) 30 ((r8.2.1 30) + 1)) x1
              else none
            else none
          else none
set_option maxHeartbeats 4000000 in
set_option maxRecDepth 100000 in
theorem b_X9_weighs_7 (r : gS) : ∀ (φ : Nat) (s : gS) (x1 : Int32) , f_X9_weighs_7 φ s x1 = some r → Go gTr yX9_weighs cX9_weighs 3 none 11 0 0 (fun r9 w9 => r9 = none ∧ w9 = wW r) 0 0 (wW s) 7 [some (.ref 23), some (.int x1), none] [] := by
  intro φ
  induction φ with
  | zero =>
    intro s x1 h
    exact absurd h (by intro h0; cases h0)
  | succ φ ih =>
    intro s x1 h
    rw [f_X9_weighs_7] at h
    refine go_iload_n (q := 8) dX9_weighs_7 rfl rfl ?_
    refine go_aload_n (q := 9) dX9_weighs_8 rfl rfl ?_
    refine go_get (v := .int (s.1 23)) (q := 12) dX9_weighs_9 fX9_78 (wg_23 _) rfl rfl ?_
    refine go_icmp_gt (tgt := 87) (q := 15) dX9_weighs_12 (by decide) rfl (fun c1 => ?_) (fun c1 => ?_)
    · replace h := g_pos c1 h
      cases h
      exact go_ret dX9_weighs_87 rfl (Nat.le_refl _) (Nat.le_refl _) ⟨rfl, rfl⟩
    · replace h := g_neg c1 h
      refine go_aload_n (q := 16) dX9_weighs_15 rfl rfl ?_
      refine go_get (v := .int (s.1 30)) (q := 19) dX9_weighs_16 fX9_178 (wg_23 _) rfl rfl ?_
      refine go_bipush (v := 12) (q := 21) dX9_weighs_19 (by decide) rfl ?_
      refine go_icmp_ge (tgt := 87) (q := 24) dX9_weighs_21 (by decide) rfl (fun c2 => ?_) (fun c2 => ?_)
      · replace h := g_pos c2 h
        cases h
        exact go_ret dX9_weighs_87 rfl (Nat.le_refl _) (Nat.le_refl _) ⟨rfl, rfl⟩
      · replace h := g_neg c2 h
        refine go_aload_n (q := 25) dX9_weighs_24 rfl rfl ?_
        refine go_iload_n (q := 26) dX9_weighs_25 rfl rfl ?_
        obtain ⟨r3, e4, h⟩ := g_bind h
        refine go_callV0 (q := 29) (as := [.int x1]) (rest := []) (st2 := [.int r3.1]) (w2 := wW r3.2) dX9_weighs_26 cX9_181 (t_X9_worth s x1 _ e4) (wg_23 _) rfl rfl rfl (Nat.le_of_ble_eq_true rfl) (by decide) ⟨Nat.le_refl _, Nat.le_refl _⟩ rfl rfl ?_
        refine go_istore_n (ls2 := [some (.ref 23), some (.int x1), some (.int r3.1)]) (q := 30) dX9_weighs_29 (by decide) rfl rfl ?_
        refine go_iload_n (q := 31) dX9_weighs_30 rfl rfl ?_
        refine go_if_ne (tgt := 37) (q := 34) dX9_weighs_31 (by decide) rfl (fun c5 => ?_) (fun c5 => ?_)
        · replace h := g_neg c5 h
          refine go_aload_n (q := 38) dX9_weighs_37 rfl rfl ?_
          refine go_get (v := .ref 33) (q := 41) dX9_weighs_38 fX9_52 (wg_23 _) rfl rfl ?_
          refine go_aload_n (q := 42) dX9_weighs_41 rfl rfl ?_
          refine go_get (v := .int (r3.2.1 30)) (q := 45) dX9_weighs_42 fX9_178 (wg_23 _) rfl rfl ?_
          refine go_iload_n (q := 46) dX9_weighs_45 rfl rfl ?_
          obtain ⟨g6, h⟩ := g_guard h
          refine go_iast (w2 := wW (sa r3.2 29 ((r3.2.1 30).toNatClampNeg) x1)) (q := 47) dX9_weighs_46 (wg_33 _) (inB_in g6) (wa_33 _ _ _) rfl ?_
          refine go_aload_n (q := 48) dX9_weighs_47 rfl rfl ?_
          refine go_get (v := .ref 34) (q := 51) dX9_weighs_48 fX9_55 (wg_23 _) rfl rfl ?_
          refine go_aload_n (q := 52) dX9_weighs_51 rfl rfl ?_
          refine go_get (v := .int (r3.2.1 30)) (q := 55) dX9_weighs_52 fX9_178 (wg_23 _) rfl rfl ?_
          refine go_iload_n (q := 56) dX9_weighs_55 rfl rfl ?_
          obtain ⟨g7, h⟩ := g_guard h
          refine go_iast (w2 := wW (sa (sa r3.2 29 ((r3.2.1 30).toNatClampNeg) x1) 30 ((r3.2.1 30).toNatClampNeg) r3.1)) (q := 57) dX9_weighs_56 (wg_34 _) (inB_in g7) (wa_34 _ _ _) rfl ?_
          refine go_aload_n (q := 58) dX9_weighs_57 rfl rfl ?_
          refine go_get (v := .ref 35) (q := 61) dX9_weighs_58 fX9_58 (wg_23 _) rfl rfl ?_
          refine go_aload_n (q := 62) dX9_weighs_61 rfl rfl ?_
          refine go_get (v := .int (r3.2.1 30)) (q := 65) dX9_weighs_62 fX9_178 (wg_23 _) rfl rfl ?_
          refine go_aload_n (q := 66) dX9_weighs_65 rfl rfl ?_
          refine go_iload_n (q := 67) dX9_weighs_66 rfl rfl ?_
          obtain ⟨r8, e9, h⟩ := g_bind h
          refine go_callV0 (q := 70) (as := [.int x1]) (rest := [.int (r3.2.1 30), .ref 35]) (st2 := [.int r8.1, .int (r3.2.1 30), .ref 35]) (w2 := wW r8.2) dX9_weighs_67 cX9_184 (t_X9_bytesOf (sa (sa r3.2 29 ((r3.2.1 30).toNatClampNeg) x1) 30 ((r3.2.1 30).toNatClampNeg) r3.1) x1 _ e9) (wg_23 _) rfl rfl rfl (Nat.le_of_ble_eq_true rfl) (by decide) ⟨Nat.le_refl _, Nat.le_refl _⟩ rfl rfl ?_
          obtain ⟨g10, h⟩ := g_guard h
          refine go_iast (w2 := wW (sa r8.2 31 ((r3.2.1 30).toNatClampNeg) r8.1)) (q := 71) dX9_weighs_70 (wg_35 _) (inB_in g10) (wa_35 _ _ _) rfl ?_
          refine go_aload_n (q := 72) dX9_weighs_71 rfl rfl ?_
          refine go_aload_n (q := 73) dX9_weighs_72 rfl rfl ?_
          refine go_get (v := .int (r8.2.1 30)) (q := 76) dX9_weighs_73 fX9_178 (wg_23 _) rfl rfl ?_
          refine go_iconst (v := 1) (q := 77) dX9_weighs_76 (by decide) rfl ?_
          refine go_iadd (q := 78) dX9_weighs_77 rfl ?_
          refine go_put (w2 := wW (ss (sa r8.2 31 ((r3.2.1 30).toNatClampNeg) r8.1) 30 ((r8.2.1 30) + 1))) (q := 81) dX9_weighs_78 fX9_178 (wg_23 _) (Nat.le_of_ble_eq_true rfl) (fun _ => rfl) (fun _ => rfl) (wp_23_22 _ _) rfl ?_
          refine go_ls (ls2 := [some (.ref 23), some (.int x1), none]) ⟨rfl, rfl, trivial⟩ ?_
          exact b_X9_weighs_81 (f_X9_weighs_7 φ) r (fun s x1 h => ih s x1 h) (ss (sa r8.2 31 ((r3.2.1 30).toNatClampNeg) r8.1) 30 ((r8.2.1 30) + 1)) x1 h
        · replace h := g_pos c5 h
          refine go_goto (tgt := 81) dX9_weighs_34 (by decide) ?_
          refine go_ls (ls2 := [some (.ref 23), some (.int x1), none]) ⟨rfl, rfl, trivial⟩ ?_
          exact b_X9_weighs_81 (f_X9_weighs_7 φ) r (fun s x1 h => ih s x1 h) r3.2 x1 h
def f_X9_weighs (s : gS) : Option gS :=
  f_X9_weighs_7 gφ (ss s 30 0) 1
set_option maxHeartbeats 4000000 in
set_option maxRecDepth 100000 in
theorem b_X9_weighs (r : gS) : ∀ (s : gS) , f_X9_weighs s = some r → Go gTr yX9_weighs cX9_weighs 3 none 11 0 0 (fun r9 w9 => r9 = none ∧ w9 = wW r) 0 0 (wW s) 0 [some (.ref 23), none, none] [] := by
  intro s h
  rw [f_X9_weighs] at h
  refine go_aload_n (q := 1) dX9_weighs_0 rfl rfl ?_
  refine go_iconst (v := 0) (q := 2) dX9_weighs_1 (by decide) rfl ?_
  refine go_put (w2 := wW (ss s 30 0)) (q := 5) dX9_weighs_2 fX9_178 (wg_23 _) (Nat.le_of_ble_eq_true rfl) (fun _ => rfl) (fun _ => rfl) (wp_23_22 _ _) rfl ?_
  refine go_iconst (v := 1) (q := 6) dX9_weighs_5 (by decide) rfl ?_
  refine go_istore_n (ls2 := [some (.ref 23), some (.int 1), none]) (q := 7) dX9_weighs_6 (by decide) rfl rfl ?_
  refine go_ls (ls2 := [some (.ref 23), some (.int 1), none]) ⟨rfl, rfl, trivial⟩ ?_
  exact b_X9_weighs_7 r gφ (ss s 30 0) 1 h
theorem t_X9_weighs (s : gS) (r : gS) (h : f_X9_weighs s = some r) : Cal 11 mX9_weighs [.ref 23] (wW s) 0 0 none (wW r) := Cal.of (by decide) (g_cats rfl) (Nat.le_of_ble_eq_true rfl) (b_X9_weighs r s h)
def f_X9_isEarlier_28 (x0 : Int32) (x2 : Int32) : Option Int32 :=
  if 12 ≤ x2 then
    some 0
  else
    if ((x0 >>> (x2 &&& 31)) &&& 1) = 1 then
      some 1
    else
      some 0
set_option maxHeartbeats 4000000 in
set_option maxRecDepth 100000 in
theorem b_X9_isEarlier_28 (w : List va_E) (r : Int32) : ∀ (x0 : Int32) (x2 : Int32) , f_X9_isEarlier_28 x0 x2 = some r → Go gTr yX9_isEarlier cX9_isEarlier 3 (some .boolean) 1 0 0 (fun r9 w9 => r9 = some (.int r) ∧ w9 = w) 0 0 w 28 [some (.int x0), none, some (.int x2)] [] := by
  intro x0 x2 h
  rw [f_X9_isEarlier_28] at h
  refine go_iload_n (q := 29) dX9_isEarlier_28 rfl rfl ?_
  refine go_bipush (v := 12) (q := 31) dX9_isEarlier_29 (by decide) rfl ?_
  refine go_icmp_ge (tgt := 47) (q := 34) dX9_isEarlier_31 (by decide) rfl (fun c1 => ?_) (fun c1 => ?_)
  · replace h := g_pos c1 h
    refine go_iconst (v := 0) (q := 48) dX9_isEarlier_47 (by decide) rfl ?_
    cases h
    exact go_iret dX9_isEarlier_48 rfl rfl (Nat.le_refl _) (Nat.le_refl _) ⟨rfl, rfl⟩
  · replace h := g_neg c1 h
    refine go_iload_n (q := 35) dX9_isEarlier_34 rfl rfl ?_
    refine go_iload_n (q := 36) dX9_isEarlier_35 rfl rfl ?_
    refine go_ishr (q := 37) dX9_isEarlier_36 rfl ?_
    refine go_iconst (v := 1) (q := 38) dX9_isEarlier_37 (by decide) rfl ?_
    refine go_iand (q := 39) dX9_isEarlier_38 rfl ?_
    refine go_iconst (v := 1) (q := 40) dX9_isEarlier_39 (by decide) rfl ?_
    refine go_icmp_ne (tgt := 47) (q := 43) dX9_isEarlier_40 (by decide) rfl (fun c2 => ?_) (fun c2 => ?_)
    · replace h := g_neg c2 h
      refine go_iconst (v := 0) (q := 48) dX9_isEarlier_47 (by decide) rfl ?_
      cases h
      exact go_iret dX9_isEarlier_48 rfl rfl (Nat.le_refl _) (Nat.le_refl _) ⟨rfl, rfl⟩
    · replace h := g_pos c2 h
      refine go_iconst (v := 1) (q := 44) dX9_isEarlier_43 (by decide) rfl ?_
      refine go_goto (tgt := 48) dX9_isEarlier_44 (by decide) ?_
      cases h
      exact go_iret dX9_isEarlier_48 rfl rfl (Nat.le_refl _) (Nat.le_refl _) ⟨rfl, rfl⟩
def f_X9_isEarlier_2 : Nat → Int32 → Int32 → Int32 → Option Int32
  | 0, _, _, _ => none
  | φ + 1, x0, x1, x2 =>
    if 12 ≤ x2 then
      f_X9_isEarlier_28 x0 x2
    else
      if ((x0 >>> (x2 &&& 31)) &&& 1) = ((x1 >>> (x2 &&& 31)) &&& 1) then
        f_X9_isEarlier_2 φ x0 x1 (x2 + 1)
      else
        f_X9_isEarlier_28 x0 x2
set_option maxHeartbeats 4000000 in
set_option maxRecDepth 100000 in
theorem b_X9_isEarlier_2 (w : List va_E) (r : Int32) : ∀ (φ : Nat) (x0 : Int32) (x1 : Int32) (x2 : Int32) , f_X9_isEarlier_2 φ x0 x1 x2 = some r → Go gTr yX9_isEarlier cX9_isEarlier 3 (some .boolean) 1 0 0 (fun r9 w9 => r9 = some (.int r) ∧ w9 = w) 0 0 w 2 [some (.int x0), some (.int x1), some (.int x2)] [] := by
  intro φ
  induction φ with
  | zero =>
    intro x0 x1 x2 h
    exact absurd h (by intro h0; cases h0)
  | succ φ ih =>
    intro x0 x1 x2 h
    rw [f_X9_isEarlier_2] at h
    refine go_iload_n (q := 3) dX9_isEarlier_2 rfl rfl ?_
    refine go_bipush (v := 12) (q := 5) dX9_isEarlier_3 (by decide) rfl ?_
    refine go_icmp_ge (tgt := 28) (q := 8) dX9_isEarlier_5 (by decide) rfl (fun c1 => ?_) (fun c1 => ?_)
    · replace h := g_pos c1 h
      refine go_ls (ls2 := [some (.int x0), none, some (.int x2)]) ⟨rfl, rfl, trivial⟩ ?_
      exact b_X9_isEarlier_28 w r x0 x2 h
    · replace h := g_neg c1 h
      refine go_iload_n (q := 9) dX9_isEarlier_8 rfl rfl ?_
      refine go_iload_n (q := 10) dX9_isEarlier_9 rfl rfl ?_
      refine go_ishr (q := 11) dX9_isEarlier_10 rfl ?_
      refine go_iconst (v := 1) (q := 12) dX9_isEarlier_11 (by decide) rfl ?_
      refine go_iand (q := 13) dX9_isEarlier_12 rfl ?_
      refine go_iload_n (q := 14) dX9_isEarlier_13 rfl rfl ?_
      refine go_iload_n (q := 15) dX9_isEarlier_14 rfl rfl ?_
      refine go_ishr (q := 16) dX9_isEarlier_15 rfl ?_
      refine go_iconst (v := 1) (q := 17) dX9_isEarlier_16 (by decide) rfl ?_
      refine go_iand (q := 18) dX9_isEarlier_17 rfl ?_
      refine go_icmp_ne (tgt := 28) (q := 21) dX9_isEarlier_18 (by decide) rfl (fun c2 => ?_) (fun c2 => ?_)
      · replace h := g_neg c2 h
        refine go_ls (ls2 := [some (.int x0), none, some (.int x2)]) ⟨rfl, rfl, trivial⟩ ?_
        exact b_X9_isEarlier_28 w r x0 x2 h
      · replace h := g_pos c2 h
        refine go_iload_n (q := 22) dX9_isEarlier_21 rfl rfl ?_
        refine go_iconst (v := 1) (q := 23) dX9_isEarlier_22 (by decide) rfl ?_
        refine go_iadd (q := 24) dX9_isEarlier_23 rfl ?_
        refine go_istore_n (ls2 := [some (.int x0), some (.int x1), some (.int (x2 + 1))]) (q := 25) dX9_isEarlier_24 (by decide) rfl rfl ?_
        refine go_goto (tgt := 2) dX9_isEarlier_25 (by decide) ?_
        refine go_ls (ls2 := [some (.int x0), some (.int x1), some (.int (x2 + 1))]) ⟨rfl, rfl, rfl, trivial⟩ ?_
        exact ih x0 x1 (x2 + 1) h
def f_X9_isEarlier (x0 : Int32) (x1 : Int32) : Option Int32 :=
  f_X9_isEarlier_2 gφ x0 x1 0
set_option maxHeartbeats 4000000 in
set_option maxRecDepth 100000 in
theorem b_X9_isEarlier (w : List va_E) (r : Int32) : ∀ (x0 : Int32) (x1 : Int32) , f_X9_isEarlier x0 x1 = some r → Go gTr yX9_isEarlier cX9_isEarlier 3 (some .boolean) 1 0 0 (fun r9 w9 => r9 = some (.int r) ∧ w9 = w) 0 0 w 0 [some (.int x0), some (.int x1), none] [] := by
  intro x0 x1 h
  rw [f_X9_isEarlier] at h
  refine go_iconst (v := 0) (q := 1) dX9_isEarlier_0 (by decide) rfl ?_
  refine go_istore_n (ls2 := [some (.int x0), some (.int x1), some (.int 0)]) (q := 2) dX9_isEarlier_1 (by decide) rfl rfl ?_
  refine go_ls (ls2 := [some (.int x0), some (.int x1), some (.int 0)]) ⟨rfl, rfl, rfl, trivial⟩ ?_
  exact b_X9_isEarlier_2 w r gφ x0 x1 0 h
theorem t_X9_isEarlier (w : List va_E) (x0 : Int32) (x1 : Int32) (r : Int32) (h : f_X9_isEarlier x0 x1 = some r) : Cal 1 mX9_isEarlier [.int x0, .int x1] w 0 0 (some (.int r)) w := Cal.of (by decide) (g_cats rfl) (Nat.le_of_ble_eq_true rfl) (b_X9_isEarlier w r x0 x1 h)
def f_X9_chosen_214 (K179 : gS → Int32 → Int32 → Int32 → Option (Int32 × gS)) (s : gS) (x2 : Int32) (x5 : Int32) (x6 : Int32) : Option (Int32 × gS) :=
  K179 s x2 x5 (x6 + 1)
set_option maxHeartbeats 4000000 in
set_option maxRecDepth 100000 in
theorem b_X9_chosen_214 (K179 : gS → Int32 → Int32 → Int32 → Option (Int32 × gS)) (r : Int32 × gS) (hK179 : ∀ (s : gS) (x2 : Int32) (x5 : Int32) (x6 : Int32) , K179 s x2 x5 x6 = some r → Go gTr yX9_chosen cX9_chosen 9 (some .int) 12 0 0 (fun r9 w9 => r9 = some (.int r.1) ∧ w9 = wW r.2) 0 0 (wW s) 179 [some (.ref 23), none, some (.int x2), none, none, some (.int x5), some (.int x6), none, none] []) : ∀ (s : gS) (x2 : Int32) (x5 : Int32) (x6 : Int32) , f_X9_chosen_214 K179 s x2 x5 x6 = some r → Go gTr yX9_chosen cX9_chosen 9 (some .int) 12 0 0 (fun r9 w9 => r9 = some (.int r.1) ∧ w9 = wW r.2) 0 0 (wW s) 214 [some (.ref 23), none, some (.int x2), none, none, some (.int x5), some (.int x6), none, none] [] := by
  intro s x2 x5 x6 h
  rw [f_X9_chosen_214] at h
  refine go_iinc (v := x6 + 1) (ls2 := [some (.ref 23), none, some (.int x2), none, none, some (.int x5), some (.int (x6 + 1)), none, none]) (q := 217) dX9_chosen_214 (by decide) rfl rfl rfl rfl ?_
  refine go_goto (tgt := 179) dX9_chosen_217 (by decide) ?_
  refine go_ls (ls2 := [some (.ref 23), none, some (.int x2), none, none, some (.int x5), some (.int (x6 + 1)), none, none]) ⟨rfl, rfl, rfl, rfl, trivial⟩ ?_
  exact hK179 s x2 x5 (x6 + 1) h
def f_X9_chosen_179 : Nat → gS → Int32 → Int32 → Int32 → Option (Int32 × gS)
  | 0, _, _, _, _ => none
  | φ + 1, s, x2, x5, x6 =>
    if (s.1 30) ≤ x6 then
      some (x5, s)
    else
      if ((x2 >>> (x6 &&& 31)) &&& 1) = 1 then
        if inB x6 12 = true then
          f_X9_chosen_214 (f_X9_chosen_179 φ) s x2 (x5 ||| (1 <<< (((s.2 29 x6.toNatClampNeg) - 1) &&& 31))) x6
        else none
      else
        f_X9_chosen_214 (f_X9_chosen_179 φ) s x2 x5 x6
set_option maxHeartbeats 4000000 in
set_option maxRecDepth 100000 in
theorem b_X9_chosen_179 (r : Int32 × gS) : ∀ (φ : Nat) (s : gS) (x2 : Int32) (x5 : Int32) (x6 : Int32) , f_X9_chosen_179 φ s x2 x5 x6 = some r → Go gTr yX9_chosen cX9_chosen 9 (some .int) 12 0 0 (fun r9 w9 => r9 = some (.int r.1) ∧ w9 = wW r.2) 0 0 (wW s) 179 [some (.ref 23), none, some (.int x2), none, none, some (.int x5), some (.int x6), none, none] [] := by
  intro φ
  induction φ with
  | zero =>
    intro s x2 x5 x6 h
    exact absurd h (by intro h0; cases h0)
  | succ φ ih =>
    intro s x2 x5 x6 h
    rw [f_X9_chosen_179] at h
    refine go_iload (q := 181) dX9_chosen_179 rfl rfl ?_
    refine go_aload_n (q := 182) dX9_chosen_181 rfl rfl ?_
    refine go_get (v := .int (s.1 30)) (q := 185) dX9_chosen_182 fX9_178 (wg_23 _) rfl rfl ?_
    refine go_icmp_ge (tgt := 220) (q := 188) dX9_chosen_185 (by decide) rfl (fun c1 => ?_) (fun c1 => ?_)
    · replace h := g_pos c1 h
      refine go_iload (q := 222) dX9_chosen_220 rfl rfl ?_
      cases h
      exact go_iret dX9_chosen_222 rfl rfl (Nat.le_refl _) (Nat.le_refl _) ⟨rfl, rfl⟩
    · replace h := g_neg c1 h
      refine go_iload_n (q := 189) dX9_chosen_188 rfl rfl ?_
      refine go_iload (q := 191) dX9_chosen_189 rfl rfl ?_
      refine go_ishr (q := 192) dX9_chosen_191 rfl ?_
      refine go_iconst (v := 1) (q := 193) dX9_chosen_192 (by decide) rfl ?_
      refine go_iand (q := 194) dX9_chosen_193 rfl ?_
      refine go_iconst (v := 1) (q := 195) dX9_chosen_194 (by decide) rfl ?_
      refine go_icmp_ne (tgt := 214) (q := 198) dX9_chosen_195 (by decide) rfl (fun c2 => ?_) (fun c2 => ?_)
      · replace h := g_neg c2 h
        refine go_ls (ls2 := [some (.ref 23), none, some (.int x2), none, none, some (.int x5), some (.int x6), none, none]) ⟨rfl, rfl, rfl, rfl, trivial⟩ ?_
        exact b_X9_chosen_214 (f_X9_chosen_179 φ) r (fun s x2 x5 x6 h => ih s x2 x5 x6 h) s x2 x5 x6 h
      · replace h := g_pos c2 h
        refine go_iload (q := 200) dX9_chosen_198 rfl rfl ?_
        refine go_iconst (v := 1) (q := 201) dX9_chosen_200 (by decide) rfl ?_
        refine go_aload_n (q := 202) dX9_chosen_201 rfl rfl ?_
        refine go_get (v := .ref 33) (q := 205) dX9_chosen_202 fX9_52 (wg_23 _) rfl rfl ?_
        refine go_iload (q := 207) dX9_chosen_205 rfl rfl ?_
        obtain ⟨g3, h⟩ := g_guard h
        refine go_iald (f := s.2 29) (q := 208) dX9_chosen_207 (wg_33 _) (inB_in g3) rfl ?_
        refine go_iconst (v := 1) (q := 209) dX9_chosen_208 (by decide) rfl ?_
        refine go_isub (q := 210) dX9_chosen_209 rfl ?_
        refine go_ishl (q := 211) dX9_chosen_210 rfl ?_
        refine go_ior (q := 212) dX9_chosen_211 rfl ?_
        refine go_istore (ls2 := [some (.ref 23), none, some (.int x2), none, none, some (.int (x5 ||| (1 <<< (((s.2 29 x6.toNatClampNeg) - 1) &&& 31)))), some (.int x6), none, none]) (q := 214) dX9_chosen_212 (by decide) rfl rfl ?_
        refine go_ls (ls2 := [some (.ref 23), none, some (.int x2), none, none, some (.int (x5 ||| (1 <<< (((s.2 29 x6.toNatClampNeg) - 1) &&& 31)))), some (.int x6), none, none]) ⟨rfl, rfl, rfl, rfl, trivial⟩ ?_
        exact b_X9_chosen_214 (f_X9_chosen_179 φ) r (fun s x2 x5 x6 h => ih s x2 x5 x6 h) s x2 (x5 ||| (1 <<< (((s.2 29 x6.toNatClampNeg) - 1) &&& 31))) x6 h
def f_X9_chosen_167 (K27 : gS → Int32 → Int32 → Int32 → Int32 → Int32 → Option (Int32 × gS)) (s : gS) (x1 : Int32) (x2 : Int32) (x3 : Int32) (x4 : Int32) (x5 : Int32) : Option (Int32 × gS) :=
  K27 s x1 x2 x3 x4 (x5 + 1)
set_option maxHeartbeats 4000000 in
set_option maxRecDepth 100000 in
theorem b_X9_chosen_167 (K27 : gS → Int32 → Int32 → Int32 → Int32 → Int32 → Option (Int32 × gS)) (r : Int32 × gS) (hK27 : ∀ (s : gS) (x1 : Int32) (x2 : Int32) (x3 : Int32) (x4 : Int32) (x5 : Int32) , K27 s x1 x2 x3 x4 x5 = some r → Go gTr yX9_chosen cX9_chosen 9 (some .int) 12 0 0 (fun r9 w9 => r9 = some (.int r.1) ∧ w9 = wW r.2) 0 0 (wW s) 27 [some (.ref 23), some (.int x1), some (.int x2), some (.int x3), some (.int x4), some (.int x5), none, none, none] []) : ∀ (s : gS) (x1 : Int32) (x2 : Int32) (x3 : Int32) (x4 : Int32) (x5 : Int32) , f_X9_chosen_167 K27 s x1 x2 x3 x4 x5 = some r → Go gTr yX9_chosen cX9_chosen 9 (some .int) 12 0 0 (fun r9 w9 => r9 = some (.int r.1) ∧ w9 = wW r.2) 0 0 (wW s) 167 [some (.ref 23), some (.int x1), some (.int x2), some (.int x3), some (.int x4), some (.int x5), none, none, none] [] := by
  intro s x1 x2 x3 x4 x5 h
  rw [f_X9_chosen_167] at h
  refine go_iinc (v := x5 + 1) (ls2 := [some (.ref 23), some (.int x1), some (.int x2), some (.int x3), some (.int x4), some (.int (x5 + 1)), none, none, none]) (q := 170) dX9_chosen_167 (by decide) rfl rfl rfl rfl ?_
  refine go_goto (tgt := 27) dX9_chosen_170 (by decide) ?_
  refine go_ls (ls2 := [some (.ref 23), some (.int x1), some (.int x2), some (.int x3), some (.int x4), some (.int (x5 + 1)), none, none, none]) ⟨rfl, rfl, rfl, rfl, rfl, rfl, trivial⟩ ?_
  exact hK27 s x1 x2 x3 x4 (x5 + 1) h
def f_X9_chosen_141 (K27 : gS → Int32 → Int32 → Int32 → Int32 → Int32 → Option (Int32 × gS)) (s : gS) (x1 : Int32) (x2 : Int32) (x3 : Int32) (x4 : Int32) (x5 : Int32) (x6 : Int32) (x7 : Int32) (t0 : Int32) : Option (Int32 × gS) :=
  if x1 < x7 then
    f_X9_chosen_167 K27 s x1 x2 x3 x4 x5
  else
    if t0 = 0 then
      f_X9_chosen_167 K27 s x1 x2 x3 x4 x5
    else
      f_X9_chosen_167 K27 s x1 x5 x6 x7 x5
set_option maxHeartbeats 4000000 in
set_option maxRecDepth 100000 in
theorem b_X9_chosen_141 (K27 : gS → Int32 → Int32 → Int32 → Int32 → Int32 → Option (Int32 × gS)) (r : Int32 × gS) (hK27 : ∀ (s : gS) (x1 : Int32) (x2 : Int32) (x3 : Int32) (x4 : Int32) (x5 : Int32) , K27 s x1 x2 x3 x4 x5 = some r → Go gTr yX9_chosen cX9_chosen 9 (some .int) 12 0 0 (fun r9 w9 => r9 = some (.int r.1) ∧ w9 = wW r.2) 0 0 (wW s) 27 [some (.ref 23), some (.int x1), some (.int x2), some (.int x3), some (.int x4), some (.int x5), none, none, none] []) : ∀ (s : gS) (x1 : Int32) (x2 : Int32) (x3 : Int32) (x4 : Int32) (x5 : Int32) (x6 : Int32) (x7 : Int32) (t0 : Int32) , f_X9_chosen_141 K27 s x1 x2 x3 x4 x5 x6 x7 t0 = some r → Go gTr yX9_chosen cX9_chosen 9 (some .int) 12 0 0 (fun r9 w9 => r9 = some (.int r.1) ∧ w9 = wW r.2) 0 0 (wW s) 141 [some (.ref 23), some (.int x1), some (.int x2), some (.int x3), some (.int x4), some (.int x5), some (.int x6), some (.int x7), none] [.int t0] := by
  intro s x1 x2 x3 x4 x5 x6 x7 t0 h
  rw [f_X9_chosen_141] at h
  refine go_istore (ls2 := [some (.ref 23), some (.int x1), some (.int x2), some (.int x3), some (.int x4), some (.int x5), some (.int x6), some (.int x7), some (.int t0)]) (q := 143) dX9_chosen_141 (by decide) rfl rfl ?_
  refine go_iload (q := 145) dX9_chosen_143 rfl rfl ?_
  refine go_iload_n (q := 146) dX9_chosen_145 rfl rfl ?_
  refine go_icmp_gt (tgt := 167) (q := 149) dX9_chosen_146 (by decide) rfl (fun c1 => ?_) (fun c1 => ?_)
  · replace h := g_pos c1 h
    refine go_ls (ls2 := [some (.ref 23), some (.int x1), some (.int x2), some (.int x3), some (.int x4), some (.int x5), none, none, none]) ⟨rfl, rfl, rfl, rfl, rfl, rfl, trivial⟩ ?_
    exact b_X9_chosen_167 K27 r hK27 s x1 x2 x3 x4 x5 h
  · replace h := g_neg c1 h
    refine go_iload (q := 151) dX9_chosen_149 rfl rfl ?_
    refine go_if_ne (tgt := 157) (q := 154) dX9_chosen_151 (by decide) rfl (fun c2 => ?_) (fun c2 => ?_)
    · replace h := g_neg c2 h
      refine go_iload (q := 159) dX9_chosen_157 rfl rfl ?_
      refine go_istore_n (ls2 := [some (.ref 23), some (.int x1), some (.int x5), some (.int x3), some (.int x4), some (.int x5), some (.int x6), some (.int x7), some (.int t0)]) (q := 160) dX9_chosen_159 (by decide) rfl rfl ?_
      refine go_iload (q := 162) dX9_chosen_160 rfl rfl ?_
      refine go_istore_n (ls2 := [some (.ref 23), some (.int x1), some (.int x5), some (.int x6), some (.int x4), some (.int x5), some (.int x6), some (.int x7), some (.int t0)]) (q := 163) dX9_chosen_162 (by decide) rfl rfl ?_
      refine go_iload (q := 165) dX9_chosen_163 rfl rfl ?_
      refine go_istore (ls2 := [some (.ref 23), some (.int x1), some (.int x5), some (.int x6), some (.int x7), some (.int x5), some (.int x6), some (.int x7), some (.int t0)]) (q := 167) dX9_chosen_165 (by decide) rfl rfl ?_
      refine go_ls (ls2 := [some (.ref 23), some (.int x1), some (.int x5), some (.int x6), some (.int x7), some (.int x5), none, none, none]) ⟨rfl, rfl, rfl, rfl, rfl, rfl, trivial⟩ ?_
      exact b_X9_chosen_167 K27 r hK27 s x1 x5 x6 x7 x5 h
    · replace h := g_pos c2 h
      refine go_goto (tgt := 167) dX9_chosen_154 (by decide) ?_
      refine go_ls (ls2 := [some (.ref 23), some (.int x1), some (.int x2), some (.int x3), some (.int x4), some (.int x5), none, none, none]) ⟨rfl, rfl, rfl, rfl, rfl, rfl, trivial⟩ ?_
      exact b_X9_chosen_167 K27 r hK27 s x1 x2 x3 x4 x5 h
def f_X9_chosen_136 (K27 : gS → Int32 → Int32 → Int32 → Int32 → Int32 → Option (Int32 × gS)) (s : gS) (x1 : Int32) (x2 : Int32) (x3 : Int32) (x4 : Int32) (x5 : Int32) (x6 : Int32) (x7 : Int32) : Option (Int32 × gS) :=
  f_X9_chosen_141 K27 s x1 x2 x3 x4 x5 x6 x7 1
set_option maxHeartbeats 4000000 in
set_option maxRecDepth 100000 in
theorem b_X9_chosen_136 (K27 : gS → Int32 → Int32 → Int32 → Int32 → Int32 → Option (Int32 × gS)) (r : Int32 × gS) (hK27 : ∀ (s : gS) (x1 : Int32) (x2 : Int32) (x3 : Int32) (x4 : Int32) (x5 : Int32) , K27 s x1 x2 x3 x4 x5 = some r → Go gTr yX9_chosen cX9_chosen 9 (some .int) 12 0 0 (fun r9 w9 => r9 = some (.int r.1) ∧ w9 = wW r.2) 0 0 (wW s) 27 [some (.ref 23), some (.int x1), some (.int x2), some (.int x3), some (.int x4), some (.int x5), none, none, none] []) : ∀ (s : gS) (x1 : Int32) (x2 : Int32) (x3 : Int32) (x4 : Int32) (x5 : Int32) (x6 : Int32) (x7 : Int32) , f_X9_chosen_136 K27 s x1 x2 x3 x4 x5 x6 x7 = some r → Go gTr yX9_chosen cX9_chosen 9 (some .int) 12 0 0 (fun r9 w9 => r9 = some (.int r.1) ∧ w9 = wW r.2) 0 0 (wW s) 136 [some (.ref 23), some (.int x1), some (.int x2), some (.int x3), some (.int x4), some (.int x5), some (.int x6), some (.int x7), none] [] := by
  intro s x1 x2 x3 x4 x5 x6 x7 h
  rw [f_X9_chosen_136] at h
  refine go_iconst (v := 1) (q := 137) dX9_chosen_136 (by decide) rfl ?_
  refine go_goto (tgt := 141) dX9_chosen_137 (by decide) ?_
  refine go_ls (ls2 := [some (.ref 23), some (.int x1), some (.int x2), some (.int x3), some (.int x4), some (.int x5), some (.int x6), some (.int x7), none]) ⟨rfl, rfl, rfl, rfl, rfl, rfl, rfl, rfl, trivial⟩ ?_
  exact b_X9_chosen_141 K27 r hK27 s x1 x2 x3 x4 x5 x6 x7 1 h
def f_X9_chosen_140 (K27 : gS → Int32 → Int32 → Int32 → Int32 → Int32 → Option (Int32 × gS)) (s : gS) (x1 : Int32) (x2 : Int32) (x3 : Int32) (x4 : Int32) (x5 : Int32) (x6 : Int32) (x7 : Int32) : Option (Int32 × gS) :=
  f_X9_chosen_141 K27 s x1 x2 x3 x4 x5 x6 x7 0
set_option maxHeartbeats 4000000 in
set_option maxRecDepth 100000 in
theorem b_X9_chosen_140 (K27 : gS → Int32 → Int32 → Int32 → Int32 → Int32 → Option (Int32 × gS)) (r : Int32 × gS) (hK27 : ∀ (s : gS) (x1 : Int32) (x2 : Int32) (x3 : Int32) (x4 : Int32) (x5 : Int32) , K27 s x1 x2 x3 x4 x5 = some r → Go gTr yX9_chosen cX9_chosen 9 (some .int) 12 0 0 (fun r9 w9 => r9 = some (.int r.1) ∧ w9 = wW r.2) 0 0 (wW s) 27 [some (.ref 23), some (.int x1), some (.int x2), some (.int x3), some (.int x4), some (.int x5), none, none, none] []) : ∀ (s : gS) (x1 : Int32) (x2 : Int32) (x3 : Int32) (x4 : Int32) (x5 : Int32) (x6 : Int32) (x7 : Int32) , f_X9_chosen_140 K27 s x1 x2 x3 x4 x5 x6 x7 = some r → Go gTr yX9_chosen cX9_chosen 9 (some .int) 12 0 0 (fun r9 w9 => r9 = some (.int r.1) ∧ w9 = wW r.2) 0 0 (wW s) 140 [some (.ref 23), some (.int x1), some (.int x2), some (.int x3), some (.int x4), some (.int x5), some (.int x6), some (.int x7), none] [] := by
  intro s x1 x2 x3 x4 x5 x6 x7 h
  rw [f_X9_chosen_140] at h
  refine go_iconst (v := 0) (q := 141) dX9_chosen_140 (by decide) rfl ?_
  refine go_ls (ls2 := [some (.ref 23), some (.int x1), some (.int x2), some (.int x3), some (.int x4), some (.int x5), some (.int x6), some (.int x7), none]) ⟨rfl, rfl, rfl, rfl, rfl, rfl, rfl, rfl, trivial⟩ ?_
  exact b_X9_chosen_141 K27 r hK27 s x1 x2 x3 x4 x5 x6 x7 0 h
def f_X9_chosen_95 (K27 : gS → Int32 → Int32 → Int32 → Int32 → Int32 → Option (Int32 × gS)) (K47 : gS → Int32 → Int32 → Int32 → Int32 → Int32 → Int32 → Int32 → Int32 → Option (Int32 × gS)) (s : gS) (x1 : Int32) (x2 : Int32) (x3 : Int32) (x4 : Int32) (x5 : Int32) (x6 : Int32) (x7 : Int32) (x8 : Int32) : Option (Int32 × gS) :=
  K47 s x1 x2 x3 x4 x5 x6 x7 (x8 + 1)
set_option maxHeartbeats 4000000 in
set_option maxRecDepth 100000 in
theorem b_X9_chosen_95 (K27 : gS → Int32 → Int32 → Int32 → Int32 → Int32 → Option (Int32 × gS)) (K47 : gS → Int32 → Int32 → Int32 → Int32 → Int32 → Int32 → Int32 → Int32 → Option (Int32 × gS)) (r : Int32 × gS) (hK27 : ∀ (s : gS) (x1 : Int32) (x2 : Int32) (x3 : Int32) (x4 : Int32) (x5 : Int32) , K27 s x1 x2 x3 x4 x5 = some r → Go gTr yX9_chosen cX9_chosen 9 (some .int) 12 0 0 (fun r9 w9 => r9 = some (.int r.1) ∧ w9 = wW r.2) 0 0 (wW s) 27 [some (.ref 23), some (.int x1), some (.int x2), some (.int x3), some (.int x4), some (.int x5), none, none, none] []) (hK47 : ∀ (s : gS) (x1 : Int32) (x2 : Int32) (x3 : Int32) (x4 : Int32) (x5 : Int32) (x6 : Int32) (x7 : Int32) (x8 : Int32) , K47 s x1 x2 x3 x4 x5 x6 x7 x8 = some r → Go gTr yX9_chosen cX9_chosen 9 (some .int) 12 0 0 (fun r9 w9 => r9 = some (.int r.1) ∧ w9 = wW r.2) 0 0 (wW s) 47 [some (.ref 23), some (.int x1), some (.int x2), some (.int x3), some (.int x4), some (.int x5), some (.int x6), some (.int x7), some (.int x8)] []) : ∀ (s : gS) (x1 : Int32) (x2 : Int32) (x3 : Int32) (x4 : Int32) (x5 : Int32) (x6 : Int32) (x7 : Int32) (x8 : Int32) , f_X9_chosen_95 K27 K47 s x1 x2 x3 x4 x5 x6 x7 x8 = some r → Go gTr yX9_chosen cX9_chosen 9 (some .int) 12 0 0 (fun r9 w9 => r9 = some (.int r.1) ∧ w9 = wW r.2) 0 0 (wW s) 95 [some (.ref 23), some (.int x1), some (.int x2), some (.int x3), some (.int x4), some (.int x5), some (.int x6), some (.int x7), some (.int x8)] [] := by
  intro s x1 x2 x3 x4 x5 x6 x7 x8 h
  rw [f_X9_chosen_95] at h
  refine go_iinc (v := x8 + 1) (ls2 := [some (.ref 23), some (.int x1), some (.int x2), some (.int x3), some (.int x4), some (.int x5), some (.int x6), some (.int x7), some (.int (x8 + 1))]) (q := 98) dX9_chosen_95 (by decide) rfl rfl rfl rfl ?_
  refine go_goto (tgt := 47) dX9_chosen_98 (by decide) ?_
  refine go_ls (ls2 := [some (.ref 23), some (.int x1), some (.int x2), some (.int x3), some (.int x4), some (.int x5), some (.int x6), some (.int x7), some (.int (x8 + 1))]) ⟨rfl, rfl, rfl, rfl, rfl, rfl, rfl, rfl, rfl, trivial⟩ ?_
  exact hK47 s x1 x2 x3 x4 x5 x6 x7 (x8 + 1) h
def f_X9_chosen_47 (K27 : gS → Int32 → Int32 → Int32 → Int32 → Int32 → Option (Int32 × gS)) : Nat → gS → Int32 → Int32 → Int32 → Int32 → Int32 → Int32 → Int32 → Int32 → Option (Int32 × gS)
  | 0, _, _, _, _, _, _, _, _, _ => none
  | φ + 1, s, x1, x2, x3, x4, x5, x6, x7, x8 =>
    if (s.1 30) ≤ x8 then
      if x3 < x6 then
        f_X9_chosen_136 K27 s x1 x2 x3 x4 x5 x6 x7
      else
        if x6 = x3 then
          if x7 < x4 then
            f_X9_chosen_136 K27 s x1 x2 x3 x4 x5 x6 x7
          else
            if x7 = x4 then
              (f_X9_isEarlier x5 x2).bind fun r6 =>
              if r6 = 0 then
                f_X9_chosen_140 K27 s x1 x2 x3 x4 x5 x6 x7
              else
                f_X9_chosen_136 K27 s x1 x2 x3 x4 x5 x6 x7
            else
              f_X9_chosen_140 K27 s x1 x2 x3 x4 x5 x6 x7
        else
          f_X9_chosen_140 K27 s x1 x2 x3 x4 x5 x6 x7
    else
      if ((x5 >>> (x8 &&& 31)) &&& 1) = 0 then
        f_X9_chosen_95 K27 (f_X9_chosen_47 K27 φ) s x1 x2 x3 x4 x5 x6 x7 x8
      else
        if inB x8 12 = true then
          if inB x8 12 = true then
            f_X9_chosen_95 K27 (f_X9_chosen_47 K27 φ) s x1 x2 x3 x4 x5 (x6 + (s.2 30 x8.toNatClampNeg)) ((x7 + (s.2 31 x8.toNatClampNeg)) + 1) x8
          else none
        else none
set_option maxHeartbeats 4000000 in
set_option maxRecDepth 100000 in
theorem b_X9_chosen_47 (K27 : gS → Int32 → Int32 → Int32 → Int32 → Int32 → Option (Int32 × gS)) (r : Int32 × gS) (hK27 : ∀ (s : gS) (x1 : Int32) (x2 : Int32) (x3 : Int32) (x4 : Int32) (x5 : Int32) , K27 s x1 x2 x3 x4 x5 = some r → Go gTr yX9_chosen cX9_chosen 9 (some .int) 12 0 0 (fun r9 w9 => r9 = some (.int r.1) ∧ w9 = wW r.2) 0 0 (wW s) 27 [some (.ref 23), some (.int x1), some (.int x2), some (.int x3), some (.int x4), some (.int x5), none, none, none] []) : ∀ (φ : Nat) (s : gS) (x1 : Int32) (x2 : Int32) (x3 : Int32) (x4 : Int32) (x5 : Int32) (x6 : Int32) (x7 : Int32) (x8 : Int32) , f_X9_chosen_47 K27 φ s x1 x2 x3 x4 x5 x6 x7 x8 = some r → Go gTr yX9_chosen cX9_chosen 9 (some .int) 12 0 0 (fun r9 w9 => r9 = some (.int r.1) ∧ w9 = wW r.2) 0 0 (wW s) 47 [some (.ref 23), some (.int x1), some (.int x2), some (.int x3), some (.int x4), some (.int x5), some (.int x6), some (.int x7), some (.int x8)] [] := by
  intro φ
  induction φ with
  | zero =>
    intro s x1 x2 x3 x4 x5 x6 x7 x8 h
    exact absurd h (by intro h0; cases h0)
  | succ φ ih =>
    intro s x1 x2 x3 x4 x5 x6 x7 x8 h
    rw [f_X9_chosen_47] at h
    refine go_iload (q := 49) dX9_chosen_47 rfl rfl ?_
    refine go_aload_n (q := 50) dX9_chosen_49 rfl rfl ?_
    refine go_get (v := .int (s.1 30)) (q := 53) dX9_chosen_50 fX9_178 (wg_23 _) rfl rfl ?_
    refine go_icmp_ge (tgt := 101) (q := 56) dX9_chosen_53 (by decide) rfl (fun c1 => ?_) (fun c1 => ?_)
    · replace h := g_pos c1 h
      refine go_iload (q := 103) dX9_chosen_101 rfl rfl ?_
      refine go_iload_n (q := 104) dX9_chosen_103 rfl rfl ?_
      refine go_icmp_gt (tgt := 136) (q := 107) dX9_chosen_104 (by decide) rfl (fun c2 => ?_) (fun c2 => ?_)
      · replace h := g_pos c2 h
        refine go_ls (ls2 := [some (.ref 23), some (.int x1), some (.int x2), some (.int x3), some (.int x4), some (.int x5), some (.int x6), some (.int x7), none]) ⟨rfl, rfl, rfl, rfl, rfl, rfl, rfl, rfl, trivial⟩ ?_
        exact b_X9_chosen_136 K27 r hK27 s x1 x2 x3 x4 x5 x6 x7 h
      · replace h := g_neg c2 h
        refine go_iload (q := 109) dX9_chosen_107 rfl rfl ?_
        refine go_iload_n (q := 110) dX9_chosen_109 rfl rfl ?_
        refine go_icmp_ne (tgt := 140) (q := 113) dX9_chosen_110 (by decide) rfl (fun c3 => ?_) (fun c3 => ?_)
        · replace h := g_neg c3 h
          refine go_ls (ls2 := [some (.ref 23), some (.int x1), some (.int x2), some (.int x3), some (.int x4), some (.int x5), some (.int x6), some (.int x7), none]) ⟨rfl, rfl, rfl, rfl, rfl, rfl, rfl, rfl, trivial⟩ ?_
          exact b_X9_chosen_140 K27 r hK27 s x1 x2 x3 x4 x5 x6 x7 h
        · replace h := g_pos c3 h
          refine go_iload (q := 115) dX9_chosen_113 rfl rfl ?_
          refine go_iload (q := 117) dX9_chosen_115 rfl rfl ?_
          refine go_icmp_lt (tgt := 136) (q := 120) dX9_chosen_117 (by decide) rfl (fun c4 => ?_) (fun c4 => ?_)
          · replace h := g_pos c4 h
            refine go_ls (ls2 := [some (.ref 23), some (.int x1), some (.int x2), some (.int x3), some (.int x4), some (.int x5), some (.int x6), some (.int x7), none]) ⟨rfl, rfl, rfl, rfl, rfl, rfl, rfl, rfl, trivial⟩ ?_
            exact b_X9_chosen_136 K27 r hK27 s x1 x2 x3 x4 x5 x6 x7 h
          · replace h := g_neg c4 h
            refine go_iload (q := 122) dX9_chosen_120 rfl rfl ?_
            refine go_iload (q := 124) dX9_chosen_122 rfl rfl ?_
            refine go_icmp_ne (tgt := 140) (q := 127) dX9_chosen_124 (by decide) rfl (fun c5 => ?_) (fun c5 => ?_)
            · replace h := g_neg c5 h
              refine go_ls (ls2 := [some (.ref 23), some (.int x1), some (.int x2), some (.int x3), some (.int x4), some (.int x5), some (.int x6), some (.int x7), none]) ⟨rfl, rfl, rfl, rfl, rfl, rfl, rfl, rfl, trivial⟩ ?_
              exact b_X9_chosen_140 K27 r hK27 s x1 x2 x3 x4 x5 x6 x7 h
            · replace h := g_pos c5 h
              refine go_iload (q := 129) dX9_chosen_127 rfl rfl ?_
              refine go_iload_n (q := 130) dX9_chosen_129 rfl rfl ?_
              obtain ⟨r6, e7, h⟩ := g_bind h
              refine go_callS0 (q := 133) (as := [.int x5, .int x2]) (rest := []) (st2 := [.int r6]) (w2 := wW s) dX9_chosen_130 cX9_190 (t_X9_isEarlier _ x5 x2 _ e7) rfl rfl (Nat.le_of_ble_eq_true rfl) (by decide) ⟨Nat.le_refl _, Nat.le_refl _⟩ rfl rfl ?_
              refine go_if_eq (tgt := 140) (q := 136) dX9_chosen_133 (by decide) rfl (fun c8 => ?_) (fun c8 => ?_)
              · replace h := g_pos c8 h
                refine go_ls (ls2 := [some (.ref 23), some (.int x1), some (.int x2), some (.int x3), some (.int x4), some (.int x5), some (.int x6), some (.int x7), none]) ⟨rfl, rfl, rfl, rfl, rfl, rfl, rfl, rfl, trivial⟩ ?_
                exact b_X9_chosen_140 K27 r hK27 s x1 x2 x3 x4 x5 x6 x7 h
              · replace h := g_neg c8 h
                refine go_ls (ls2 := [some (.ref 23), some (.int x1), some (.int x2), some (.int x3), some (.int x4), some (.int x5), some (.int x6), some (.int x7), none]) ⟨rfl, rfl, rfl, rfl, rfl, rfl, rfl, rfl, trivial⟩ ?_
                exact b_X9_chosen_136 K27 r hK27 s x1 x2 x3 x4 x5 x6 x7 h
    · replace h := g_neg c1 h
      refine go_iload (q := 58) dX9_chosen_56 rfl rfl ?_
      refine go_iload (q := 60) dX9_chosen_58 rfl rfl ?_
      refine go_ishr (q := 61) dX9_chosen_60 rfl ?_
      refine go_iconst (v := 1) (q := 62) dX9_chosen_61 (by decide) rfl ?_
      refine go_iand (q := 63) dX9_chosen_62 rfl ?_
      refine go_if_ne (tgt := 69) (q := 66) dX9_chosen_63 (by decide) rfl (fun c9 => ?_) (fun c9 => ?_)
      · replace h := g_neg c9 h
        refine go_iload (q := 71) dX9_chosen_69 rfl rfl ?_
        refine go_aload_n (q := 72) dX9_chosen_71 rfl rfl ?_
        refine go_get (v := .ref 34) (q := 75) dX9_chosen_72 fX9_55 (wg_23 _) rfl rfl ?_
        refine go_iload (q := 77) dX9_chosen_75 rfl rfl ?_
        obtain ⟨g10, h⟩ := g_guard h
        refine go_iald (f := s.2 30) (q := 78) dX9_chosen_77 (wg_34 _) (inB_in g10) rfl ?_
        refine go_iadd (q := 79) dX9_chosen_78 rfl ?_
        refine go_istore (ls2 := [some (.ref 23), some (.int x1), some (.int x2), some (.int x3), some (.int x4), some (.int x5), some (.int (x6 + (s.2 30 x8.toNatClampNeg))), some (.int x7), some (.int x8)]) (q := 81) dX9_chosen_79 (by decide) rfl rfl ?_
        refine go_iload (q := 83) dX9_chosen_81 rfl rfl ?_
        refine go_aload_n (q := 84) dX9_chosen_83 rfl rfl ?_
        refine go_get (v := .ref 35) (q := 87) dX9_chosen_84 fX9_58 (wg_23 _) rfl rfl ?_
        refine go_iload (q := 89) dX9_chosen_87 rfl rfl ?_
        obtain ⟨g11, h⟩ := g_guard h
        refine go_iald (f := s.2 31) (q := 90) dX9_chosen_89 (wg_35 _) (inB_in g11) rfl ?_
        refine go_iadd (q := 91) dX9_chosen_90 rfl ?_
        refine go_iconst (v := 1) (q := 92) dX9_chosen_91 (by decide) rfl ?_
        refine go_iadd (q := 93) dX9_chosen_92 rfl ?_
        refine go_istore (ls2 := [some (.ref 23), some (.int x1), some (.int x2), some (.int x3), some (.int x4), some (.int x5), some (.int (x6 + (s.2 30 x8.toNatClampNeg))), some (.int ((x7 + (s.2 31 x8.toNatClampNeg)) + 1)), some (.int x8)]) (q := 95) dX9_chosen_93 (by decide) rfl rfl ?_
        refine go_ls (ls2 := [some (.ref 23), some (.int x1), some (.int x2), some (.int x3), some (.int x4), some (.int x5), some (.int (x6 + (s.2 30 x8.toNatClampNeg))), some (.int ((x7 + (s.2 31 x8.toNatClampNeg)) + 1)), some (.int x8)]) ⟨rfl, rfl, rfl, rfl, rfl, rfl, rfl, rfl, rfl, trivial⟩ ?_
        exact b_X9_chosen_95 K27 (f_X9_chosen_47 K27 φ) r hK27 (fun s x1 x2 x3 x4 x5 x6 x7 x8 h => ih s x1 x2 x3 x4 x5 x6 x7 x8 h) s x1 x2 x3 x4 x5 (x6 + (s.2 30 x8.toNatClampNeg)) ((x7 + (s.2 31 x8.toNatClampNeg)) + 1) x8 h
      · replace h := g_pos c9 h
        refine go_goto (tgt := 95) dX9_chosen_66 (by decide) ?_
        refine go_ls (ls2 := [some (.ref 23), some (.int x1), some (.int x2), some (.int x3), some (.int x4), some (.int x5), some (.int x6), some (.int x7), some (.int x8)]) ⟨rfl, rfl, rfl, rfl, rfl, rfl, rfl, rfl, rfl, trivial⟩ ?_
        exact b_X9_chosen_95 K27 (f_X9_chosen_47 K27 φ) r hK27 (fun s x1 x2 x3 x4 x5 x6 x7 x8 h => ih s x1 x2 x3 x4 x5 x6 x7 x8 h) s x1 x2 x3 x4 x5 x6 x7 x8 h
def f_X9_chosen_27 : Nat → gS → Int32 → Int32 → Int32 → Int32 → Int32 → Option (Int32 × gS)
  | 0, _, _, _, _, _, _ => none
  | φ + 1, s, x1, x2, x3, x4, x5 =>
    if (1 <<< ((s.1 30) &&& 31)) ≤ x5 then
      f_X9_chosen_179 gφ s x2 0 0
    else
      f_X9_chosen_47 (f_X9_chosen_27 φ) gφ s x1 x2 x3 x4 x5 0 (-1 : Int32) 0
set_option maxHeartbeats 4000000 in
set_option maxRecDepth 100000 in
theorem b_X9_chosen_27 (r : Int32 × gS) : ∀ (φ : Nat) (s : gS) (x1 : Int32) (x2 : Int32) (x3 : Int32) (x4 : Int32) (x5 : Int32) , f_X9_chosen_27 φ s x1 x2 x3 x4 x5 = some r → Go gTr yX9_chosen cX9_chosen 9 (some .int) 12 0 0 (fun r9 w9 => r9 = some (.int r.1) ∧ w9 = wW r.2) 0 0 (wW s) 27 [some (.ref 23), some (.int x1), some (.int x2), some (.int x3), some (.int x4), some (.int x5), none, none, none] [] := by
  intro φ
  induction φ with
  | zero =>
    intro s x1 x2 x3 x4 x5 h
    exact absurd h (by intro h0; cases h0)
  | succ φ ih =>
    intro s x1 x2 x3 x4 x5 h
    rw [f_X9_chosen_27] at h
    refine go_iload (q := 29) dX9_chosen_27 rfl rfl ?_
    refine go_iconst (v := 1) (q := 30) dX9_chosen_29 (by decide) rfl ?_
    refine go_aload_n (q := 31) dX9_chosen_30 rfl rfl ?_
    refine go_get (v := .int (s.1 30)) (q := 34) dX9_chosen_31 fX9_178 (wg_23 _) rfl rfl ?_
    refine go_ishl (q := 35) dX9_chosen_34 rfl ?_
    refine go_icmp_ge (tgt := 173) (q := 38) dX9_chosen_35 (by decide) rfl (fun c1 => ?_) (fun c1 => ?_)
    · replace h := g_pos c1 h
      refine go_iconst (v := 0) (q := 174) dX9_chosen_173 (by decide) rfl ?_
      refine go_istore (ls2 := [some (.ref 23), some (.int x1), some (.int x2), some (.int x3), some (.int x4), some (.int 0), none, none, none]) (q := 176) dX9_chosen_174 (by decide) rfl rfl ?_
      refine go_iconst (v := 0) (q := 177) dX9_chosen_176 (by decide) rfl ?_
      refine go_istore (ls2 := [some (.ref 23), some (.int x1), some (.int x2), some (.int x3), some (.int x4), some (.int 0), some (.int 0), none, none]) (q := 179) dX9_chosen_177 (by decide) rfl rfl ?_
      refine go_ls (ls2 := [some (.ref 23), none, some (.int x2), none, none, some (.int 0), some (.int 0), none, none]) ⟨rfl, rfl, rfl, rfl, trivial⟩ ?_
      exact b_X9_chosen_179 r gφ s x2 0 0 h
    · replace h := g_neg c1 h
      refine go_iconst (v := 0) (q := 39) dX9_chosen_38 (by decide) rfl ?_
      refine go_istore (ls2 := [some (.ref 23), some (.int x1), some (.int x2), some (.int x3), some (.int x4), some (.int x5), some (.int 0), none, none]) (q := 41) dX9_chosen_39 (by decide) rfl rfl ?_
      refine go_iconst (v := (-1 : Int32)) (q := 42) dX9_chosen_41 (by decide) rfl ?_
      refine go_istore (ls2 := [some (.ref 23), some (.int x1), some (.int x2), some (.int x3), some (.int x4), some (.int x5), some (.int 0), some (.int (-1 : Int32)), none]) (q := 44) dX9_chosen_42 (by decide) rfl rfl ?_
      refine go_iconst (v := 0) (q := 45) dX9_chosen_44 (by decide) rfl ?_
      refine go_istore (ls2 := [some (.ref 23), some (.int x1), some (.int x2), some (.int x3), some (.int x4), some (.int x5), some (.int 0), some (.int (-1 : Int32)), some (.int 0)]) (q := 47) dX9_chosen_45 (by decide) rfl rfl ?_
      refine go_ls (ls2 := [some (.ref 23), some (.int x1), some (.int x2), some (.int x3), some (.int x4), some (.int x5), some (.int 0), some (.int (-1 : Int32)), some (.int 0)]) ⟨rfl, rfl, rfl, rfl, rfl, rfl, rfl, rfl, rfl, trivial⟩ ?_
      exact b_X9_chosen_47 (f_X9_chosen_27 φ) r (fun s x1 x2 x3 x4 x5 h => ih s x1 x2 x3 x4 x5 h) gφ s x1 x2 x3 x4 x5 0 (-1 : Int32) 0 h
def f_X9_chosen (s : gS) (x1 : Int32) : Option (Int32 × gS) :=
  (f_X9_in x1 0 200).bind fun r1 =>
  if r1 = 0 then
    some ((-1 : Int32), s)
  else
    (f_X9_weighs s).bind fun r4 =>
    f_X9_chosen_27 gφ r4 x1 0 0 0 1
set_option maxHeartbeats 4000000 in
set_option maxRecDepth 100000 in
theorem b_X9_chosen (r : Int32 × gS) : ∀ (s : gS) (x1 : Int32) , f_X9_chosen s x1 = some r → Go gTr yX9_chosen cX9_chosen 9 (some .int) 12 0 0 (fun r9 w9 => r9 = some (.int r.1) ∧ w9 = wW r.2) 0 0 (wW s) 0 [some (.ref 23), some (.int x1), none, none, none, none, none, none, none] [] := by
  intro s x1 h
  rw [f_X9_chosen] at h
  refine go_iload_n (q := 1) dX9_chosen_0 rfl rfl ?_
  refine go_iconst (v := 0) (q := 2) dX9_chosen_1 (by decide) rfl ?_
  refine go_sipush (v := 200) (q := 5) dX9_chosen_2 (by decide) rfl ?_
  obtain ⟨r1, e2, h⟩ := g_bind h
  refine go_callS0 (q := 8) (as := [.int x1, .int 0, .int 200]) (rest := []) (st2 := [.int r1]) (w2 := wW s) dX9_chosen_5 cX9_67 (t_X9_in _ x1 0 200 _ e2) rfl rfl (Nat.le_of_ble_eq_true rfl) (by decide) ⟨Nat.le_refl _, Nat.le_refl _⟩ rfl rfl ?_
  refine go_if_ne (tgt := 13) (q := 11) dX9_chosen_8 (by decide) rfl (fun c3 => ?_) (fun c3 => ?_)
  · replace h := g_neg c3 h
    refine go_aload_n (q := 14) dX9_chosen_13 rfl rfl ?_
    obtain ⟨r4, e5, h⟩ := g_bind h
    refine go_callV0 (q := 17) (as := []) (rest := []) (st2 := []) (w2 := wW r4) dX9_chosen_14 cX9_187 (t_X9_weighs s _ e5) (wg_23 _) rfl rfl rfl (Nat.le_of_ble_eq_true rfl) (by decide) ⟨Nat.le_refl _, Nat.le_refl _⟩ rfl rfl ?_
    refine go_iconst (v := 0) (q := 18) dX9_chosen_17 (by decide) rfl ?_
    refine go_istore_n (ls2 := [some (.ref 23), some (.int x1), some (.int 0), none, none, none, none, none, none]) (q := 19) dX9_chosen_18 (by decide) rfl rfl ?_
    refine go_iconst (v := 0) (q := 20) dX9_chosen_19 (by decide) rfl ?_
    refine go_istore_n (ls2 := [some (.ref 23), some (.int x1), some (.int 0), some (.int 0), none, none, none, none, none]) (q := 21) dX9_chosen_20 (by decide) rfl rfl ?_
    refine go_iconst (v := 0) (q := 22) dX9_chosen_21 (by decide) rfl ?_
    refine go_istore (ls2 := [some (.ref 23), some (.int x1), some (.int 0), some (.int 0), some (.int 0), none, none, none, none]) (q := 24) dX9_chosen_22 (by decide) rfl rfl ?_
    refine go_iconst (v := 1) (q := 25) dX9_chosen_24 (by decide) rfl ?_
    refine go_istore (ls2 := [some (.ref 23), some (.int x1), some (.int 0), some (.int 0), some (.int 0), some (.int 1), none, none, none]) (q := 27) dX9_chosen_25 (by decide) rfl rfl ?_
    refine go_ls (ls2 := [some (.ref 23), some (.int x1), some (.int 0), some (.int 0), some (.int 0), some (.int 1), none, none, none]) ⟨rfl, rfl, rfl, rfl, rfl, rfl, trivial⟩ ?_
    exact b_X9_chosen_27 r gφ r4 x1 0 0 0 1 h
  · replace h := g_pos c3 h
    refine go_iconst (v := (-1 : Int32)) (q := 12) dX9_chosen_11 (by decide) rfl ?_
    cases h
    exact go_iret dX9_chosen_12 rfl rfl (Nat.le_refl _) (Nat.le_refl _) ⟨rfl, rfl⟩
theorem t_X9_chosen (s : gS) (x1 : Int32) (r : Int32 × gS) (h : f_X9_chosen s x1 = some r) : Cal 12 mX9_chosen [.ref 23, .int x1] (wW s) 0 0 (some (.int r.1)) (wW r.2) := Cal.of (by decide) (g_cats rfl) (Nat.le_of_ble_eq_true rfl) (b_X9_chosen r s x1 h)
def f_X9_types_2 : Nat → gS → Int32 → Int32 → Option gS
  | 0, _, _, _ => none
  | φ + 1, s, x1, x2 =>
    if x2 < 0 then
      some s
    else
      if inB (s.1 31) 120 = true then
        f_X9_types_2 φ (ss (sa s 32 ((s.1 31).toNatClampNeg) (((x1 >>> ((8 * x2) &&& 31)).toInt8.toInt32).toInt8.toInt32)) 31 ((s.1 31) + 1)) x1 (x2 + (-1 : Int32))
      else none
set_option maxHeartbeats 4000000 in
set_option maxRecDepth 100000 in
theorem b_X9_types_2 (r : gS) : ∀ (φ : Nat) (s : gS) (x1 : Int32) (x2 : Int32) , f_X9_types_2 φ s x1 x2 = some r → Go gTr yX9_types cX9_types 3 none 1 0 0 (fun r9 w9 => r9 = none ∧ w9 = wW r) 0 0 (wW s) 2 [some (.ref 23), some (.int x1), some (.int x2)] [] := by
  intro φ
  induction φ with
  | zero =>
    intro s x1 x2 h
    exact absurd h (by intro h0; cases h0)
  | succ φ ih =>
    intro s x1 x2 h
    rw [f_X9_types_2] at h
    refine go_iload_n (q := 3) dX9_types_2 rfl rfl ?_
    refine go_if_lt (tgt := 38) (q := 6) dX9_types_3 (by decide) rfl (fun c1 => ?_) (fun c1 => ?_)
    · replace h := g_pos c1 h
      cases h
      exact go_ret dX9_types_38 rfl (Nat.le_refl _) (Nat.le_refl _) ⟨rfl, rfl⟩
    · replace h := g_neg c1 h
      refine go_aload_n (q := 7) dX9_types_6 rfl rfl ?_
      refine go_get (v := .ref 36) (q := 10) dX9_types_7 fX9_61 (wg_23 _) rfl rfl ?_
      refine go_aload_n (q := 11) dX9_types_10 rfl rfl ?_
      refine go_get (v := .int (s.1 31)) (q := 14) dX9_types_11 fX9_193 (wg_23 _) rfl rfl ?_
      refine go_iload_n (q := 15) dX9_types_14 rfl rfl ?_
      refine go_bipush (v := 8) (q := 17) dX9_types_15 (by decide) rfl ?_
      refine go_iload_n (q := 18) dX9_types_17 rfl rfl ?_
      refine go_imul (q := 19) dX9_types_18 rfl ?_
      refine go_ishr (q := 20) dX9_types_19 rfl ?_
      refine go_i2b (q := 21) dX9_types_20 rfl ?_
      obtain ⟨g2, h⟩ := g_guard h
      refine go_bast (w2 := wW (sa s 32 ((s.1 31).toNatClampNeg) (((x1 >>> ((8 * x2) &&& 31)).toInt8.toInt32).toInt8.toInt32))) (q := 22) dX9_types_21 (wg_36 _) (inB_in g2) (wa_36 _ _ _) rfl ?_
      refine go_aload_n (q := 23) dX9_types_22 rfl rfl ?_
      refine go_aload_n (q := 24) dX9_types_23 rfl rfl ?_
      refine go_get (v := .int (s.1 31)) (q := 27) dX9_types_24 fX9_193 (wg_23 _) rfl rfl ?_
      refine go_iconst (v := 1) (q := 28) dX9_types_27 (by decide) rfl ?_
      refine go_iadd (q := 29) dX9_types_28 rfl ?_
      refine go_put (w2 := wW (ss (sa s 32 ((s.1 31).toNatClampNeg) (((x1 >>> ((8 * x2) &&& 31)).toInt8.toInt32).toInt8.toInt32)) 31 ((s.1 31) + 1))) (q := 32) dX9_types_29 fX9_193 (wg_23 _) (Nat.le_of_ble_eq_true rfl) (fun _ => rfl) (fun _ => rfl) (wp_23_24 _ _) rfl ?_
      refine go_iinc (v := x2 + (-1 : Int32)) (ls2 := [some (.ref 23), some (.int x1), some (.int (x2 + (-1 : Int32)))]) (q := 35) dX9_types_32 (by decide) rfl rfl rfl rfl ?_
      refine go_goto (tgt := 2) dX9_types_35 (by decide) ?_
      refine go_ls (ls2 := [some (.ref 23), some (.int x1), some (.int (x2 + (-1 : Int32)))]) ⟨rfl, rfl, rfl, trivial⟩ ?_
      exact ih (ss (sa s 32 ((s.1 31).toNatClampNeg) (((x1 >>> ((8 * x2) &&& 31)).toInt8.toInt32).toInt8.toInt32)) 31 ((s.1 31) + 1)) x1 (x2 + (-1 : Int32)) h
def f_X9_types (s : gS) (x1 : Int32) : Option gS :=
  f_X9_types_2 gφ s x1 3
set_option maxHeartbeats 4000000 in
set_option maxRecDepth 100000 in
theorem b_X9_types (r : gS) : ∀ (s : gS) (x1 : Int32) , f_X9_types s x1 = some r → Go gTr yX9_types cX9_types 3 none 1 0 0 (fun r9 w9 => r9 = none ∧ w9 = wW r) 0 0 (wW s) 0 [some (.ref 23), some (.int x1), none] [] := by
  intro s x1 h
  rw [f_X9_types] at h
  refine go_iconst (v := 3) (q := 1) dX9_types_0 (by decide) rfl ?_
  refine go_istore_n (ls2 := [some (.ref 23), some (.int x1), some (.int 3)]) (q := 2) dX9_types_1 (by decide) rfl rfl ?_
  refine go_ls (ls2 := [some (.ref 23), some (.int x1), some (.int 3)]) ⟨rfl, rfl, rfl, trivial⟩ ?_
  exact b_X9_types_2 r gφ s x1 3 h
theorem t_X9_types (s : gS) (x1 : Int32) (r : gS) (h : f_X9_types s x1 = some r) : Cal 1 mX9_types [.ref 23, .int x1] (wW s) 0 0 none (wW r) := Cal.of (by decide) (g_cats rfl) (Nat.le_of_ble_eq_true rfl) (b_X9_types r s x1 h)
def f_X9_feed (s : gS) (x1 : Int32) (x2 : Int32) (x3 : Int32) (x4 : Int32) (x5 : Int32) : Option (Int32 × gS) :=
  if ((s.1 31) + 20) ≤ 120 then
    (f_X9_types s x1).bind fun r2 =>
    (f_X9_types r2 x2).bind fun r4 =>
    (f_X9_types r4 x3).bind fun r6 =>
    (f_X9_types r6 x4).bind fun r8 =>
    (f_X9_types r8 x5).bind fun r10 =>
    some (r10.1 31, r10)
  else
    some ((-1 : Int32), s)
set_option maxHeartbeats 4000000 in
set_option maxRecDepth 100000 in
theorem b_X9_feed (r : Int32 × gS) : ∀ (s : gS) (x1 : Int32) (x2 : Int32) (x3 : Int32) (x4 : Int32) (x5 : Int32) , f_X9_feed s x1 x2 x3 x4 x5 = some r → Go gTr yX9_feed cX9_feed 6 (some .int) 2 0 0 (fun r9 w9 => r9 = some (.int r.1) ∧ w9 = wW r.2) 0 0 (wW s) 0 [some (.ref 23), some (.int x1), some (.int x2), some (.int x3), some (.int x4), some (.int x5)] [] := by
  intro s x1 x2 x3 x4 x5 h
  rw [f_X9_feed] at h
  refine go_aload_n (q := 1) dX9_feed_0 rfl rfl ?_
  refine go_get (v := .int (s.1 31)) (q := 4) dX9_feed_1 fX9_193 (wg_23 _) rfl rfl ?_
  refine go_bipush (v := 20) (q := 6) dX9_feed_4 (by decide) rfl ?_
  refine go_iadd (q := 7) dX9_feed_6 rfl ?_
  refine go_bipush (v := 120) (q := 9) dX9_feed_7 (by decide) rfl ?_
  refine go_icmp_le (tgt := 14) (q := 12) dX9_feed_9 (by decide) rfl (fun c1 => ?_) (fun c1 => ?_)
  · replace h := g_pos c1 h
    refine go_aload_n (q := 15) dX9_feed_14 rfl rfl ?_
    refine go_iload_n (q := 16) dX9_feed_15 rfl rfl ?_
    obtain ⟨r2, e3, h⟩ := g_bind h
    refine go_callV0 (q := 19) (as := [.int x1]) (rest := []) (st2 := []) (w2 := wW r2) dX9_feed_16 cX9_196 (t_X9_types s x1 _ e3) (wg_23 _) rfl rfl rfl (Nat.le_of_ble_eq_true rfl) (by decide) ⟨Nat.le_refl _, Nat.le_refl _⟩ rfl rfl ?_
    refine go_aload_n (q := 20) dX9_feed_19 rfl rfl ?_
    refine go_iload_n (q := 21) dX9_feed_20 rfl rfl ?_
    obtain ⟨r4, e5, h⟩ := g_bind h
    refine go_callV0 (q := 24) (as := [.int x2]) (rest := []) (st2 := []) (w2 := wW r4) dX9_feed_21 cX9_196 (t_X9_types r2 x2 _ e5) (wg_23 _) rfl rfl rfl (Nat.le_of_ble_eq_true rfl) (by decide) ⟨Nat.le_refl _, Nat.le_refl _⟩ rfl rfl ?_
    refine go_aload_n (q := 25) dX9_feed_24 rfl rfl ?_
    refine go_iload_n (q := 26) dX9_feed_25 rfl rfl ?_
    obtain ⟨r6, e7, h⟩ := g_bind h
    refine go_callV0 (q := 29) (as := [.int x3]) (rest := []) (st2 := []) (w2 := wW r6) dX9_feed_26 cX9_196 (t_X9_types r4 x3 _ e7) (wg_23 _) rfl rfl rfl (Nat.le_of_ble_eq_true rfl) (by decide) ⟨Nat.le_refl _, Nat.le_refl _⟩ rfl rfl ?_
    refine go_aload_n (q := 30) dX9_feed_29 rfl rfl ?_
    refine go_iload (q := 32) dX9_feed_30 rfl rfl ?_
    obtain ⟨r8, e9, h⟩ := g_bind h
    refine go_callV0 (q := 35) (as := [.int x4]) (rest := []) (st2 := []) (w2 := wW r8) dX9_feed_32 cX9_196 (t_X9_types r6 x4 _ e9) (wg_23 _) rfl rfl rfl (Nat.le_of_ble_eq_true rfl) (by decide) ⟨Nat.le_refl _, Nat.le_refl _⟩ rfl rfl ?_
    refine go_aload_n (q := 36) dX9_feed_35 rfl rfl ?_
    refine go_iload (q := 38) dX9_feed_36 rfl rfl ?_
    obtain ⟨r10, e11, h⟩ := g_bind h
    refine go_callV0 (q := 41) (as := [.int x5]) (rest := []) (st2 := []) (w2 := wW r10) dX9_feed_38 cX9_196 (t_X9_types r8 x5 _ e11) (wg_23 _) rfl rfl rfl (Nat.le_of_ble_eq_true rfl) (by decide) ⟨Nat.le_refl _, Nat.le_refl _⟩ rfl rfl ?_
    refine go_aload_n (q := 42) dX9_feed_41 rfl rfl ?_
    refine go_get (v := .int (r10.1 31)) (q := 45) dX9_feed_42 fX9_193 (wg_23 _) rfl rfl ?_
    cases h
    exact go_iret dX9_feed_45 rfl rfl (Nat.le_refl _) (Nat.le_refl _) ⟨rfl, rfl⟩
  · replace h := g_neg c1 h
    refine go_iconst (v := (-1 : Int32)) (q := 13) dX9_feed_12 (by decide) rfl ?_
    cases h
    exact go_iret dX9_feed_13 rfl rfl (Nat.le_refl _) (Nat.le_refl _) ⟨rfl, rfl⟩
theorem t_X9_feed (s : gS) (x1 : Int32) (x2 : Int32) (x3 : Int32) (x4 : Int32) (x5 : Int32) (r : Int32 × gS) (h : f_X9_feed s x1 x2 x3 x4 x5 = some r) : Cal 2 mX9_feed [.ref 23, .int x1, .int x2, .int x3, .int x4, .int x5] (wW s) 0 0 (some (.int r.1)) (wW r.2) := Cal.of (by decide) (g_cats rfl) (Nat.le_of_ble_eq_true rfl) (b_X9_feed r s x1 x2 x3 x4 x5 h)
def f_X9_sign (s : gS) (x1 : Int32) : Option Int32 :=
  if (s.1 33) ≤ x1 then
    some 0
  else
    if inB x1 120 = true then
      some ((s.2 32 x1.toNatClampNeg) &&& 255)
    else none
set_option maxHeartbeats 4000000 in
set_option maxRecDepth 100000 in
theorem b_X9_sign (s : gS) (r : Int32) : ∀ (x1 : Int32) , f_X9_sign s x1 = some r → Go gTr yX9_sign cX9_sign 2 (some .int) 1 0 0 (fun r9 w9 => r9 = some (.int r) ∧ w9 = wW s) 0 0 (wW s) 0 [some (.ref 23), some (.int x1)] [] := by
  intro x1 h
  rw [f_X9_sign] at h
  refine go_iload_n (q := 1) dX9_sign_0 rfl rfl ?_
  refine go_aload_n (q := 2) dX9_sign_1 rfl rfl ?_
  refine go_get (v := .int (s.1 33)) (q := 5) dX9_sign_2 fX9_199 (wg_23 _) rfl rfl ?_
  refine go_icmp_ge (tgt := 21) (q := 8) dX9_sign_5 (by decide) rfl (fun c1 => ?_) (fun c1 => ?_)
  · replace h := g_pos c1 h
    refine go_iconst (v := 0) (q := 22) dX9_sign_21 (by decide) rfl ?_
    cases h
    exact go_iret dX9_sign_22 rfl rfl (Nat.le_refl _) (Nat.le_refl _) ⟨rfl, rfl⟩
  · replace h := g_neg c1 h
    refine go_aload_n (q := 9) dX9_sign_8 rfl rfl ?_
    refine go_get (v := .ref 36) (q := 12) dX9_sign_9 fX9_61 (wg_23 _) rfl rfl ?_
    refine go_iload_n (q := 13) dX9_sign_12 rfl rfl ?_
    obtain ⟨g2, h⟩ := g_guard h
    refine go_bald (f := s.2 32) (q := 14) dX9_sign_13 (wg_36 _) (inB_in g2) rfl ?_
    refine go_sipush (v := 255) (q := 17) dX9_sign_14 (by decide) rfl ?_
    refine go_iand (q := 18) dX9_sign_17 rfl ?_
    refine go_goto (tgt := 22) dX9_sign_18 (by decide) ?_
    cases h
    exact go_iret dX9_sign_22 rfl rfl (Nat.le_refl _) (Nat.le_refl _) ⟨rfl, rfl⟩
theorem t_X9_sign (s : gS) (x1 : Int32) (r : Int32) (h : f_X9_sign s x1 = some r) : Cal 1 mX9_sign [.ref 23, .int x1] (wW s) 0 0 (some (.int r)) (wW s) := Cal.of (by decide) (g_cats rfl) (Nat.le_of_ble_eq_true rfl) (b_X9_sign s r x1 h)
def f_X9_isDigit (x0 : Int32) : Option Int32 :=
  if x0 < 48 then
    some 0
  else
    if 57 < x0 then
      some 0
    else
      some 1
set_option maxHeartbeats 4000000 in
set_option maxRecDepth 100000 in
theorem b_X9_isDigit (w : List va_E) (r : Int32) : ∀ (x0 : Int32) , f_X9_isDigit x0 = some r → Go gTr yX9_isDigit cX9_isDigit 1 (some .boolean) 1 0 0 (fun r9 w9 => r9 = some (.int r) ∧ w9 = w) 0 0 w 0 [some (.int x0)] [] := by
  intro x0 h
  rw [f_X9_isDigit] at h
  refine go_iload_n (q := 1) dX9_isDigit_0 rfl rfl ?_
  refine go_bipush (v := 48) (q := 3) dX9_isDigit_1 (by decide) rfl ?_
  refine go_icmp_lt (tgt := 16) (q := 6) dX9_isDigit_3 (by decide) rfl (fun c1 => ?_) (fun c1 => ?_)
  · replace h := g_pos c1 h
    refine go_iconst (v := 0) (q := 17) dX9_isDigit_16 (by decide) rfl ?_
    cases h
    exact go_iret dX9_isDigit_17 rfl rfl (Nat.le_refl _) (Nat.le_refl _) ⟨rfl, rfl⟩
  · replace h := g_neg c1 h
    refine go_iload_n (q := 7) dX9_isDigit_6 rfl rfl ?_
    refine go_bipush (v := 57) (q := 9) dX9_isDigit_7 (by decide) rfl ?_
    refine go_icmp_gt (tgt := 16) (q := 12) dX9_isDigit_9 (by decide) rfl (fun c2 => ?_) (fun c2 => ?_)
    · replace h := g_pos c2 h
      refine go_iconst (v := 0) (q := 17) dX9_isDigit_16 (by decide) rfl ?_
      cases h
      exact go_iret dX9_isDigit_17 rfl rfl (Nat.le_refl _) (Nat.le_refl _) ⟨rfl, rfl⟩
    · replace h := g_neg c2 h
      refine go_iconst (v := 1) (q := 13) dX9_isDigit_12 (by decide) rfl ?_
      refine go_goto (tgt := 17) dX9_isDigit_13 (by decide) ?_
      cases h
      exact go_iret dX9_isDigit_17 rfl rfl (Nat.le_refl _) (Nat.le_refl _) ⟨rfl, rfl⟩
theorem t_X9_isDigit (w : List va_E) (x0 : Int32) (r : Int32) (h : f_X9_isDigit x0 = some r) : Cal 1 mX9_isDigit [.int x0] w 0 0 (some (.int r)) w := Cal.of (by decide) (g_cats rfl) (Nat.le_of_ble_eq_true rfl) (b_X9_isDigit w r x0 h)
def f_X9_readsNumber_59 (s : gS) (x1 : Int32) : Option (Int32 × gS) :=
  (f_X9_sign s (s.1 32)).bind fun r1 =>
  if r1 = (48 + (x1 - x1 / 10 * 10)) then
    (f_X9_sign s ((s.1 32) + 1)).bind fun r4 =>
    if r4 = 46 then
      some (1, (ss s 32 ((s.1 32) + 2)))
    else
      some (0, s)
  else
    some (0, s)
set_option maxHeartbeats 4000000 in
set_option maxRecDepth 100000 in
theorem b_X9_readsNumber_59 (r : Int32 × gS) : ∀ (s : gS) (x1 : Int32) , f_X9_readsNumber_59 s x1 = some r → Go gTr yX9_readsNumber cX9_readsNumber 2 (some .boolean) 2 0 0 (fun r9 w9 => r9 = some (.int r.1) ∧ w9 = wW r.2) 0 0 (wW s) 59 [some (.ref 23), some (.int x1)] [] := by
  intro s x1 h
  rw [f_X9_readsNumber_59] at h
  refine go_aload_n (q := 60) dX9_readsNumber_59 rfl rfl ?_
  refine go_aload_n (q := 61) dX9_readsNumber_60 rfl rfl ?_
  refine go_get (v := .int (s.1 32)) (q := 64) dX9_readsNumber_61 fX9_205 (wg_23 _) rfl rfl ?_
  obtain ⟨r1, e2, h⟩ := g_bind h
  refine go_callV0 (q := 67) (as := [.int (s.1 32)]) (rest := []) (st2 := [.int r1]) (w2 := wW s) dX9_readsNumber_64 cX9_202 (t_X9_sign s (s.1 32) _ e2) (wg_23 _) rfl rfl rfl (Nat.le_of_ble_eq_true rfl) (by decide) ⟨Nat.le_refl _, Nat.le_refl _⟩ rfl rfl ?_
  refine go_bipush (v := 48) (q := 69) dX9_readsNumber_67 (by decide) rfl ?_
  refine go_iload_n (q := 70) dX9_readsNumber_69 rfl rfl ?_
  refine go_bipush (v := 10) (q := 72) dX9_readsNumber_70 (by decide) rfl ?_
  refine go_irem (q := 73) dX9_readsNumber_72 (by decide) rfl ?_
  refine go_iadd (q := 74) dX9_readsNumber_73 rfl ?_
  refine go_icmp_ne (tgt := 92) (q := 77) dX9_readsNumber_74 (by decide) rfl (fun c3 => ?_) (fun c3 => ?_)
  · replace h := g_neg c3 h
    refine go_iconst (v := 0) (q := 93) dX9_readsNumber_92 (by decide) rfl ?_
    cases h
    exact go_iret dX9_readsNumber_93 rfl rfl (Nat.le_refl _) (Nat.le_refl _) ⟨rfl, rfl⟩
  · replace h := g_pos c3 h
    refine go_aload_n (q := 78) dX9_readsNumber_77 rfl rfl ?_
    refine go_aload_n (q := 79) dX9_readsNumber_78 rfl rfl ?_
    refine go_get (v := .int (s.1 32)) (q := 82) dX9_readsNumber_79 fX9_205 (wg_23 _) rfl rfl ?_
    refine go_iconst (v := 1) (q := 83) dX9_readsNumber_82 (by decide) rfl ?_
    refine go_iadd (q := 84) dX9_readsNumber_83 rfl ?_
    obtain ⟨r4, e5, h⟩ := g_bind h
    refine go_callV0 (q := 87) (as := [.int ((s.1 32) + 1)]) (rest := []) (st2 := [.int r4]) (w2 := wW s) dX9_readsNumber_84 cX9_202 (t_X9_sign s ((s.1 32) + 1) _ e5) (wg_23 _) rfl rfl rfl (Nat.le_of_ble_eq_true rfl) (by decide) ⟨Nat.le_refl _, Nat.le_refl _⟩ rfl rfl ?_
    refine go_bipush (v := 46) (q := 89) dX9_readsNumber_87 (by decide) rfl ?_
    refine go_icmp_eq (tgt := 94) (q := 92) dX9_readsNumber_89 (by decide) rfl (fun c6 => ?_) (fun c6 => ?_)
    · replace h := g_pos c6 h
      refine go_aload_n (q := 95) dX9_readsNumber_94 rfl rfl ?_
      refine go_aload_n (q := 96) dX9_readsNumber_95 rfl rfl ?_
      refine go_get (v := .int (s.1 32)) (q := 99) dX9_readsNumber_96 fX9_205 (wg_23 _) rfl rfl ?_
      refine go_iconst (v := 2) (q := 100) dX9_readsNumber_99 (by decide) rfl ?_
      refine go_iadd (q := 101) dX9_readsNumber_100 rfl ?_
      refine go_put (w2 := wW (ss s 32 ((s.1 32) + 2))) (q := 104) dX9_readsNumber_101 fX9_205 (wg_23 _) (Nat.le_of_ble_eq_true rfl) (fun _ => rfl) (fun _ => rfl) (wp_23_25 _ _) rfl ?_
      refine go_iconst (v := 1) (q := 105) dX9_readsNumber_104 (by decide) rfl ?_
      cases h
      exact go_iret dX9_readsNumber_105 rfl rfl (Nat.le_refl _) (Nat.le_refl _) ⟨rfl, rfl⟩
    · replace h := g_neg c6 h
      refine go_iconst (v := 0) (q := 93) dX9_readsNumber_92 (by decide) rfl ?_
      cases h
      exact go_iret dX9_readsNumber_93 rfl rfl (Nat.le_refl _) (Nat.le_refl _) ⟨rfl, rfl⟩
def f_X9_readsNumber (s : gS) : Option (Int32 × gS) :=
  (f_X9_sign s (s.1 32)).bind fun r1 =>
  (f_X9_isDigit r1).bind fun r3 =>
  if r3 = 0 then
    some (1, s)
  else
    if ((s.1 23) + 1) < 10 then
      f_X9_readsNumber_59 s ((s.1 23) + 1)
    else
      (f_X9_sign s (s.1 32)).bind fun r7 =>
      if r7 = (48 + (((s.1 23) + 1) / 10)) then
        f_X9_readsNumber_59 (ss s 32 ((s.1 32) + 1)) ((s.1 23) + 1)
      else
        some (0, s)
set_option maxHeartbeats 4000000 in
set_option maxRecDepth 100000 in
theorem b_X9_readsNumber (r : Int32 × gS) : ∀ (s : gS) , f_X9_readsNumber s = some r → Go gTr yX9_readsNumber cX9_readsNumber 2 (some .boolean) 2 0 0 (fun r9 w9 => r9 = some (.int r.1) ∧ w9 = wW r.2) 0 0 (wW s) 0 [some (.ref 23), none] [] := by
  intro s h
  rw [f_X9_readsNumber] at h
  refine go_aload_n (q := 1) dX9_readsNumber_0 rfl rfl ?_
  refine go_aload_n (q := 2) dX9_readsNumber_1 rfl rfl ?_
  refine go_get (v := .int (s.1 32)) (q := 5) dX9_readsNumber_2 fX9_205 (wg_23 _) rfl rfl ?_
  obtain ⟨r1, e2, h⟩ := g_bind h
  refine go_callV0 (q := 8) (as := [.int (s.1 32)]) (rest := []) (st2 := [.int r1]) (w2 := wW s) dX9_readsNumber_5 cX9_202 (t_X9_sign s (s.1 32) _ e2) (wg_23 _) rfl rfl rfl (Nat.le_of_ble_eq_true rfl) (by decide) ⟨Nat.le_refl _, Nat.le_refl _⟩ rfl rfl ?_
  obtain ⟨r3, e4, h⟩ := g_bind h
  refine go_callS0 (q := 11) (as := [.int r1]) (rest := []) (st2 := [.int r3]) (w2 := wW s) dX9_readsNumber_8 cX9_208 (t_X9_isDigit _ r1 _ e4) rfl rfl (Nat.le_of_ble_eq_true rfl) (by decide) ⟨Nat.le_refl _, Nat.le_refl _⟩ rfl rfl ?_
  refine go_if_ne (tgt := 16) (q := 14) dX9_readsNumber_11 (by decide) rfl (fun c5 => ?_) (fun c5 => ?_)
  · replace h := g_neg c5 h
    refine go_aload_n (q := 17) dX9_readsNumber_16 rfl rfl ?_
    refine go_get (v := .int (s.1 23)) (q := 20) dX9_readsNumber_17 fX9_78 (wg_23 _) rfl rfl ?_
    refine go_iconst (v := 1) (q := 21) dX9_readsNumber_20 (by decide) rfl ?_
    refine go_iadd (q := 22) dX9_readsNumber_21 rfl ?_
    refine go_istore_n (ls2 := [some (.ref 23), some (.int ((s.1 23) + 1))]) (q := 23) dX9_readsNumber_22 (by decide) rfl rfl ?_
    refine go_iload_n (q := 24) dX9_readsNumber_23 rfl rfl ?_
    refine go_bipush (v := 10) (q := 26) dX9_readsNumber_24 (by decide) rfl ?_
    refine go_icmp_lt (tgt := 59) (q := 29) dX9_readsNumber_26 (by decide) rfl (fun c6 => ?_) (fun c6 => ?_)
    · replace h := g_pos c6 h
      refine go_ls (ls2 := [some (.ref 23), some (.int ((s.1 23) + 1))]) ⟨rfl, rfl, trivial⟩ ?_
      exact b_X9_readsNumber_59 r s ((s.1 23) + 1) h
    · replace h := g_neg c6 h
      refine go_aload_n (q := 30) dX9_readsNumber_29 rfl rfl ?_
      refine go_aload_n (q := 31) dX9_readsNumber_30 rfl rfl ?_
      refine go_get (v := .int (s.1 32)) (q := 34) dX9_readsNumber_31 fX9_205 (wg_23 _) rfl rfl ?_
      obtain ⟨r7, e8, h⟩ := g_bind h
      refine go_callV0 (q := 37) (as := [.int (s.1 32)]) (rest := []) (st2 := [.int r7]) (w2 := wW s) dX9_readsNumber_34 cX9_202 (t_X9_sign s (s.1 32) _ e8) (wg_23 _) rfl rfl rfl (Nat.le_of_ble_eq_true rfl) (by decide) ⟨Nat.le_refl _, Nat.le_refl _⟩ rfl rfl ?_
      refine go_bipush (v := 48) (q := 39) dX9_readsNumber_37 (by decide) rfl ?_
      refine go_iload_n (q := 40) dX9_readsNumber_39 rfl rfl ?_
      refine go_bipush (v := 10) (q := 42) dX9_readsNumber_40 (by decide) rfl ?_
      refine go_idiv (q := 43) dX9_readsNumber_42 (by decide) rfl ?_
      refine go_iadd (q := 44) dX9_readsNumber_43 rfl ?_
      refine go_icmp_eq (tgt := 49) (q := 47) dX9_readsNumber_44 (by decide) rfl (fun c9 => ?_) (fun c9 => ?_)
      · replace h := g_pos c9 h
        refine go_aload_n (q := 50) dX9_readsNumber_49 rfl rfl ?_
        refine go_aload_n (q := 51) dX9_readsNumber_50 rfl rfl ?_
        refine go_get (v := .int (s.1 32)) (q := 54) dX9_readsNumber_51 fX9_205 (wg_23 _) rfl rfl ?_
        refine go_iconst (v := 1) (q := 55) dX9_readsNumber_54 (by decide) rfl ?_
        refine go_iadd (q := 56) dX9_readsNumber_55 rfl ?_
        refine go_put (w2 := wW (ss s 32 ((s.1 32) + 1))) (q := 59) dX9_readsNumber_56 fX9_205 (wg_23 _) (Nat.le_of_ble_eq_true rfl) (fun _ => rfl) (fun _ => rfl) (wp_23_25 _ _) rfl ?_
        refine go_ls (ls2 := [some (.ref 23), some (.int ((s.1 23) + 1))]) ⟨rfl, rfl, trivial⟩ ?_
        exact b_X9_readsNumber_59 r (ss s 32 ((s.1 32) + 1)) ((s.1 23) + 1) h
      · replace h := g_neg c9 h
        refine go_iconst (v := 0) (q := 48) dX9_readsNumber_47 (by decide) rfl ?_
        cases h
        exact go_iret dX9_readsNumber_48 rfl rfl (Nat.le_refl _) (Nat.le_refl _) ⟨rfl, rfl⟩
  · replace h := g_pos c5 h
    refine go_iconst (v := 1) (q := 15) dX9_readsNumber_14 (by decide) rfl ?_
    cases h
    exact go_iret dX9_readsNumber_15 rfl rfl (Nat.le_refl _) (Nat.le_refl _) ⟨rfl, rfl⟩
theorem t_X9_readsNumber (s : gS) (r : Int32 × gS) (h : f_X9_readsNumber s = some r) : Cal 2 mX9_readsNumber [.ref 23] (wW s) 0 0 (some (.int r.1)) (wW r.2) := Cal.of (by decide) (g_cats rfl) (Nat.le_of_ble_eq_true rfl) (b_X9_readsNumber r s h)
def f_X9_isCellAt (s : gS) (x1 : Int32) : Option Int32 :=
  (f_X9_sign s x1).bind fun r1 =>
  if r1 < 97 then
    some 0
  else
    (f_X9_sign s x1).bind fun r4 =>
    if 100 < r4 then
      some 0
    else
      (f_X9_sign s (x1 + 1)).bind fun r7 =>
      if r7 < 49 then
        some 0
      else
        (f_X9_sign s (x1 + 1)).bind fun r10 =>
        if 52 < r10 then
          some 0
        else
          some 1
set_option maxHeartbeats 4000000 in
set_option maxRecDepth 100000 in
theorem b_X9_isCellAt (s : gS) (r : Int32) : ∀ (x1 : Int32) , f_X9_isCellAt s x1 = some r → Go gTr yX9_isCellAt cX9_isCellAt 2 (some .boolean) 2 0 0 (fun r9 w9 => r9 = some (.int r) ∧ w9 = wW s) 0 0 (wW s) 0 [some (.ref 23), some (.int x1)] [] := by
  intro x1 h
  rw [f_X9_isCellAt] at h
  refine go_aload_n (q := 1) dX9_isCellAt_0 rfl rfl ?_
  refine go_iload_n (q := 2) dX9_isCellAt_1 rfl rfl ?_
  obtain ⟨r1, e2, h⟩ := g_bind h
  refine go_callV0 (q := 5) (as := [.int x1]) (rest := []) (st2 := [.int r1]) (w2 := wW s) dX9_isCellAt_2 cX9_202 (t_X9_sign s x1 _ e2) (wg_23 _) rfl rfl rfl (Nat.le_of_ble_eq_true rfl) (by decide) ⟨Nat.le_refl _, Nat.le_refl _⟩ rfl rfl ?_
  refine go_bipush (v := 97) (q := 7) dX9_isCellAt_5 (by decide) rfl ?_
  refine go_icmp_lt (tgt := 48) (q := 10) dX9_isCellAt_7 (by decide) rfl (fun c3 => ?_) (fun c3 => ?_)
  · replace h := g_pos c3 h
    refine go_iconst (v := 0) (q := 49) dX9_isCellAt_48 (by decide) rfl ?_
    cases h
    exact go_iret dX9_isCellAt_49 rfl rfl (Nat.le_refl _) (Nat.le_refl _) ⟨rfl, rfl⟩
  · replace h := g_neg c3 h
    refine go_aload_n (q := 11) dX9_isCellAt_10 rfl rfl ?_
    refine go_iload_n (q := 12) dX9_isCellAt_11 rfl rfl ?_
    obtain ⟨r4, e5, h⟩ := g_bind h
    refine go_callV0 (q := 15) (as := [.int x1]) (rest := []) (st2 := [.int r4]) (w2 := wW s) dX9_isCellAt_12 cX9_202 (t_X9_sign s x1 _ e5) (wg_23 _) rfl rfl rfl (Nat.le_of_ble_eq_true rfl) (by decide) ⟨Nat.le_refl _, Nat.le_refl _⟩ rfl rfl ?_
    refine go_bipush (v := 100) (q := 17) dX9_isCellAt_15 (by decide) rfl ?_
    refine go_icmp_gt (tgt := 48) (q := 20) dX9_isCellAt_17 (by decide) rfl (fun c6 => ?_) (fun c6 => ?_)
    · replace h := g_pos c6 h
      refine go_iconst (v := 0) (q := 49) dX9_isCellAt_48 (by decide) rfl ?_
      cases h
      exact go_iret dX9_isCellAt_49 rfl rfl (Nat.le_refl _) (Nat.le_refl _) ⟨rfl, rfl⟩
    · replace h := g_neg c6 h
      refine go_aload_n (q := 21) dX9_isCellAt_20 rfl rfl ?_
      refine go_iload_n (q := 22) dX9_isCellAt_21 rfl rfl ?_
      refine go_iconst (v := 1) (q := 23) dX9_isCellAt_22 (by decide) rfl ?_
      refine go_iadd (q := 24) dX9_isCellAt_23 rfl ?_
      obtain ⟨r7, e8, h⟩ := g_bind h
      refine go_callV0 (q := 27) (as := [.int (x1 + 1)]) (rest := []) (st2 := [.int r7]) (w2 := wW s) dX9_isCellAt_24 cX9_202 (t_X9_sign s (x1 + 1) _ e8) (wg_23 _) rfl rfl rfl (Nat.le_of_ble_eq_true rfl) (by decide) ⟨Nat.le_refl _, Nat.le_refl _⟩ rfl rfl ?_
      refine go_bipush (v := 49) (q := 29) dX9_isCellAt_27 (by decide) rfl ?_
      refine go_icmp_lt (tgt := 48) (q := 32) dX9_isCellAt_29 (by decide) rfl (fun c9 => ?_) (fun c9 => ?_)
      · replace h := g_pos c9 h
        refine go_iconst (v := 0) (q := 49) dX9_isCellAt_48 (by decide) rfl ?_
        cases h
        exact go_iret dX9_isCellAt_49 rfl rfl (Nat.le_refl _) (Nat.le_refl _) ⟨rfl, rfl⟩
      · replace h := g_neg c9 h
        refine go_aload_n (q := 33) dX9_isCellAt_32 rfl rfl ?_
        refine go_iload_n (q := 34) dX9_isCellAt_33 rfl rfl ?_
        refine go_iconst (v := 1) (q := 35) dX9_isCellAt_34 (by decide) rfl ?_
        refine go_iadd (q := 36) dX9_isCellAt_35 rfl ?_
        obtain ⟨r10, e11, h⟩ := g_bind h
        refine go_callV0 (q := 39) (as := [.int (x1 + 1)]) (rest := []) (st2 := [.int r10]) (w2 := wW s) dX9_isCellAt_36 cX9_202 (t_X9_sign s (x1 + 1) _ e11) (wg_23 _) rfl rfl rfl (Nat.le_of_ble_eq_true rfl) (by decide) ⟨Nat.le_refl _, Nat.le_refl _⟩ rfl rfl ?_
        refine go_bipush (v := 52) (q := 41) dX9_isCellAt_39 (by decide) rfl ?_
        refine go_icmp_gt (tgt := 48) (q := 44) dX9_isCellAt_41 (by decide) rfl (fun c12 => ?_) (fun c12 => ?_)
        · replace h := g_pos c12 h
          refine go_iconst (v := 0) (q := 49) dX9_isCellAt_48 (by decide) rfl ?_
          cases h
          exact go_iret dX9_isCellAt_49 rfl rfl (Nat.le_refl _) (Nat.le_refl _) ⟨rfl, rfl⟩
        · replace h := g_neg c12 h
          refine go_iconst (v := 1) (q := 45) dX9_isCellAt_44 (by decide) rfl ?_
          refine go_goto (tgt := 49) dX9_isCellAt_45 (by decide) ?_
          cases h
          exact go_iret dX9_isCellAt_49 rfl rfl (Nat.le_refl _) (Nat.le_refl _) ⟨rfl, rfl⟩
theorem t_X9_isCellAt (s : gS) (x1 : Int32) (r : Int32) (h : f_X9_isCellAt s x1 = some r) : Cal 2 mX9_isCellAt [.ref 23, .int x1] (wW s) 0 0 (some (.int r)) (wW s) := Cal.of (by decide) (g_cats rfl) (Nat.le_of_ble_eq_true rfl) (b_X9_isCellAt s r x1 h)
def f_X9_readsSigns_158 (K2 : gS → Int32 → Option (Int32 × gS)) (s : gS) (x1 : Int32) : Option (Int32 × gS) :=
  K2 s x1
set_option maxHeartbeats 4000000 in
set_option maxRecDepth 100000 in
theorem b_X9_readsSigns_158 (K2 : gS → Int32 → Option (Int32 × gS)) (r : Int32 × gS) (hK2 : ∀ (s : gS) (x1 : Int32) , K2 s x1 = some r → Go gTr yX9_readsSigns cX9_readsSigns 3 (some .boolean) 3 0 0 (fun r9 w9 => r9 = some (.int r.1) ∧ w9 = wW r.2) 0 0 (wW s) 2 [some (.ref 23), some (.int x1), none] []) : ∀ (s : gS) (x1 : Int32) , f_X9_readsSigns_158 K2 s x1 = some r → Go gTr yX9_readsSigns cX9_readsSigns 3 (some .boolean) 3 0 0 (fun r9 w9 => r9 = some (.int r.1) ∧ w9 = wW r.2) 0 0 (wW s) 158 [some (.ref 23), some (.int x1), none] [] := by
  intro s x1 h
  rw [f_X9_readsSigns_158] at h
  refine go_goto (tgt := 2) dX9_readsSigns_158 (by decide) ?_
  refine go_ls (ls2 := [some (.ref 23), some (.int x1), none]) ⟨rfl, rfl, trivial⟩ ?_
  exact hK2 s x1 h
def f_X9_readsSigns_122 (K2 : gS → Int32 → Option (Int32 × gS)) (s : gS) (x1 : Int32) (t1 : Int32) (t2 : Int32) : Option (Int32 × gS) :=
  f_X9_readsSigns_158 K2 (ss s 32 (t1 + t2)) x1
set_option maxHeartbeats 4000000 in
set_option maxRecDepth 100000 in
theorem b_X9_readsSigns_122 (K2 : gS → Int32 → Option (Int32 × gS)) (r : Int32 × gS) (hK2 : ∀ (s : gS) (x1 : Int32) , K2 s x1 = some r → Go gTr yX9_readsSigns cX9_readsSigns 3 (some .boolean) 3 0 0 (fun r9 w9 => r9 = some (.int r.1) ∧ w9 = wW r.2) 0 0 (wW s) 2 [some (.ref 23), some (.int x1), none] []) : ∀ (s : gS) (x1 : Int32) (t1 : Int32) (t2 : Int32) , f_X9_readsSigns_122 K2 s x1 t1 t2 = some r → Go gTr yX9_readsSigns cX9_readsSigns 3 (some .boolean) 3 0 0 (fun r9 w9 => r9 = some (.int r.1) ∧ w9 = wW r.2) 0 0 (wW s) 122 [some (.ref 23), some (.int x1), none] [.int t2, .int t1, .ref 23] := by
  intro s x1 t1 t2 h
  rw [f_X9_readsSigns_122] at h
  refine go_iadd (q := 123) dX9_readsSigns_122 rfl ?_
  refine go_put (w2 := wW (ss s 32 (t1 + t2))) (q := 126) dX9_readsSigns_123 fX9_205 (wg_23 _) (Nat.le_of_ble_eq_true rfl) (fun _ => rfl) (fun _ => rfl) (wp_23_25 _ _) rfl ?_
  refine go_goto (tgt := 158) dX9_readsSigns_126 (by decide) ?_
  refine go_ls (ls2 := [some (.ref 23), some (.int x1), none]) ⟨rfl, rfl, trivial⟩ ?_
  exact b_X9_readsSigns_158 K2 r hK2 (ss s 32 (t1 + t2)) x1 h
def f_X9_readsSigns_56 (K2 : gS → Int32 → Option (Int32 × gS)) (s : gS) (x2 : Int32) (t0 : Int32) : Option (Int32 × gS) :=
  if t0 = 0 then
    K2 s t0
  else
    if x2 = 43 then
      (f_X9_sign (ss s 32 ((s.1 32) + 1)) ((s.1 32) + 1)).bind fun r7 =>
      (f_X9_isDigit r7).bind fun r9 =>
      if r9 = 0 then
        some (0, (ss s 32 ((s.1 32) + 1)))
      else
        (f_X9_sign (ss s 32 ((s.1 32) + 1)) (((s.1 32) + 1) + 1)).bind fun r12 =>
        (f_X9_isDigit r12).bind fun r14 =>
        if r14 = 0 then
          f_X9_readsSigns_122 K2 (ss s 32 ((s.1 32) + 1)) t0 ((s.1 32) + 1) 1
        else
          f_X9_readsSigns_122 K2 (ss s 32 ((s.1 32) + 1)) t0 ((s.1 32) + 1) 2
    else
      if x2 = 42 then
        (f_X9_isCellAt (ss s 32 ((s.1 32) + 1)) ((s.1 32) + 1)).bind fun r4 =>
        if r4 = 0 then
          some (0, (ss s 32 ((s.1 32) + 1)))
        else
          f_X9_readsSigns_158 K2 (ss (ss s 32 ((s.1 32) + 1)) 32 (((s.1 32) + 1) + 2)) t0
      else
        f_X9_readsSigns_158 K2 (ss s 32 ((s.1 32) + 1)) t0
set_option maxHeartbeats 4000000 in
set_option maxRecDepth 100000 in
theorem b_X9_readsSigns_56 (K2 : gS → Int32 → Option (Int32 × gS)) (r : Int32 × gS) (hK2 : ∀ (s : gS) (x1 : Int32) , K2 s x1 = some r → Go gTr yX9_readsSigns cX9_readsSigns 3 (some .boolean) 3 0 0 (fun r9 w9 => r9 = some (.int r.1) ∧ w9 = wW r.2) 0 0 (wW s) 2 [some (.ref 23), some (.int x1), none] []) : ∀ (s : gS) (x2 : Int32) (t0 : Int32) , f_X9_readsSigns_56 K2 s x2 t0 = some r → Go gTr yX9_readsSigns cX9_readsSigns 3 (some .boolean) 3 0 0 (fun r9 w9 => r9 = some (.int r.1) ∧ w9 = wW r.2) 0 0 (wW s) 56 [some (.ref 23), none, some (.int x2)] [.int t0] := by
  intro s x2 t0 h
  rw [f_X9_readsSigns_56] at h
  refine go_istore_n (ls2 := [some (.ref 23), some (.int t0), some (.int x2)]) (q := 57) dX9_readsSigns_56 (by decide) rfl rfl ?_
  refine go_iload_n (q := 58) dX9_readsSigns_57 rfl rfl ?_
  refine go_if_ne (tgt := 64) (q := 61) dX9_readsSigns_58 (by decide) rfl (fun c1 => ?_) (fun c1 => ?_)
  · replace h := g_neg c1 h
    refine go_aload_n (q := 65) dX9_readsSigns_64 rfl rfl ?_
    refine go_aload_n (q := 66) dX9_readsSigns_65 rfl rfl ?_
    refine go_get (v := .int (s.1 32)) (q := 69) dX9_readsSigns_66 fX9_205 (wg_23 _) rfl rfl ?_
    refine go_iconst (v := 1) (q := 70) dX9_readsSigns_69 (by decide) rfl ?_
    refine go_iadd (q := 71) dX9_readsSigns_70 rfl ?_
    refine go_put (w2 := wW (ss s 32 ((s.1 32) + 1))) (q := 74) dX9_readsSigns_71 fX9_205 (wg_23 _) (Nat.le_of_ble_eq_true rfl) (fun _ => rfl) (fun _ => rfl) (wp_23_25 _ _) rfl ?_
    refine go_iload_n (q := 75) dX9_readsSigns_74 rfl rfl ?_
    refine go_bipush (v := 43) (q := 77) dX9_readsSigns_75 (by decide) rfl ?_
    refine go_icmp_ne (tgt := 129) (q := 80) dX9_readsSigns_77 (by decide) rfl (fun c2 => ?_) (fun c2 => ?_)
    · replace h := g_neg c2 h
      refine go_iload_n (q := 130) dX9_readsSigns_129 rfl rfl ?_
      refine go_bipush (v := 42) (q := 132) dX9_readsSigns_130 (by decide) rfl ?_
      refine go_icmp_ne (tgt := 158) (q := 135) dX9_readsSigns_132 (by decide) rfl (fun c3 => ?_) (fun c3 => ?_)
      · replace h := g_neg c3 h
        refine go_ls (ls2 := [some (.ref 23), some (.int t0), none]) ⟨rfl, rfl, trivial⟩ ?_
        exact b_X9_readsSigns_158 K2 r hK2 (ss s 32 ((s.1 32) + 1)) t0 h
      · replace h := g_pos c3 h
        refine go_aload_n (q := 136) dX9_readsSigns_135 rfl rfl ?_
        refine go_aload_n (q := 137) dX9_readsSigns_136 rfl rfl ?_
        refine go_get (v := .int ((s.1 32) + 1)) (q := 140) dX9_readsSigns_137 fX9_205 (wg_23 _) rfl rfl ?_
        obtain ⟨r4, e5, h⟩ := g_bind h
        refine go_callV0 (q := 143) (as := [.int ((s.1 32) + 1)]) (rest := []) (st2 := [.int r4]) (w2 := wW (ss s 32 ((s.1 32) + 1))) dX9_readsSigns_140 cX9_211 (t_X9_isCellAt (ss s 32 ((s.1 32) + 1)) ((s.1 32) + 1) _ e5) (wg_23 _) rfl rfl rfl (Nat.le_of_ble_eq_true rfl) (by decide) ⟨Nat.le_refl _, Nat.le_refl _⟩ rfl rfl ?_
        refine go_if_ne (tgt := 148) (q := 146) dX9_readsSigns_143 (by decide) rfl (fun c6 => ?_) (fun c6 => ?_)
        · replace h := g_neg c6 h
          refine go_aload_n (q := 149) dX9_readsSigns_148 rfl rfl ?_
          refine go_aload_n (q := 150) dX9_readsSigns_149 rfl rfl ?_
          refine go_get (v := .int ((s.1 32) + 1)) (q := 153) dX9_readsSigns_150 fX9_205 (wg_23 _) rfl rfl ?_
          refine go_iconst (v := 2) (q := 154) dX9_readsSigns_153 (by decide) rfl ?_
          refine go_iadd (q := 155) dX9_readsSigns_154 rfl ?_
          refine go_put (w2 := wW (ss (ss s 32 ((s.1 32) + 1)) 32 (((s.1 32) + 1) + 2))) (q := 158) dX9_readsSigns_155 fX9_205 (wg_23 _) (Nat.le_of_ble_eq_true rfl) (fun _ => rfl) (fun _ => rfl) (wp_23_25 _ _) rfl ?_
          refine go_ls (ls2 := [some (.ref 23), some (.int t0), none]) ⟨rfl, rfl, trivial⟩ ?_
          exact b_X9_readsSigns_158 K2 r hK2 (ss (ss s 32 ((s.1 32) + 1)) 32 (((s.1 32) + 1) + 2)) t0 h
        · replace h := g_pos c6 h
          refine go_iconst (v := 0) (q := 147) dX9_readsSigns_146 (by decide) rfl ?_
          cases h
          exact go_iret dX9_readsSigns_147 rfl rfl (Nat.le_refl _) (Nat.le_refl _) ⟨rfl, rfl⟩
    · replace h := g_pos c2 h
      refine go_aload_n (q := 81) dX9_readsSigns_80 rfl rfl ?_
      refine go_aload_n (q := 82) dX9_readsSigns_81 rfl rfl ?_
      refine go_get (v := .int ((s.1 32) + 1)) (q := 85) dX9_readsSigns_82 fX9_205 (wg_23 _) rfl rfl ?_
      obtain ⟨r7, e8, h⟩ := g_bind h
      refine go_callV0 (q := 88) (as := [.int ((s.1 32) + 1)]) (rest := []) (st2 := [.int r7]) (w2 := wW (ss s 32 ((s.1 32) + 1))) dX9_readsSigns_85 cX9_202 (t_X9_sign (ss s 32 ((s.1 32) + 1)) ((s.1 32) + 1) _ e8) (wg_23 _) rfl rfl rfl (Nat.le_of_ble_eq_true rfl) (by decide) ⟨Nat.le_refl _, Nat.le_refl _⟩ rfl rfl ?_
      obtain ⟨r9, e10, h⟩ := g_bind h
      refine go_callS0 (q := 91) (as := [.int r7]) (rest := []) (st2 := [.int r9]) (w2 := wW (ss s 32 ((s.1 32) + 1))) dX9_readsSigns_88 cX9_208 (t_X9_isDigit _ r7 _ e10) rfl rfl (Nat.le_of_ble_eq_true rfl) (by decide) ⟨Nat.le_refl _, Nat.le_refl _⟩ rfl rfl ?_
      refine go_if_ne (tgt := 96) (q := 94) dX9_readsSigns_91 (by decide) rfl (fun c11 => ?_) (fun c11 => ?_)
      · replace h := g_neg c11 h
        refine go_aload_n (q := 97) dX9_readsSigns_96 rfl rfl ?_
        refine go_aload_n (q := 98) dX9_readsSigns_97 rfl rfl ?_
        refine go_get (v := .int ((s.1 32) + 1)) (q := 101) dX9_readsSigns_98 fX9_205 (wg_23 _) rfl rfl ?_
        refine go_aload_n (q := 102) dX9_readsSigns_101 rfl rfl ?_
        refine go_aload_n (q := 103) dX9_readsSigns_102 rfl rfl ?_
        refine go_get (v := .int ((s.1 32) + 1)) (q := 106) dX9_readsSigns_103 fX9_205 (wg_23 _) rfl rfl ?_
        refine go_iconst (v := 1) (q := 107) dX9_readsSigns_106 (by decide) rfl ?_
        refine go_iadd (q := 108) dX9_readsSigns_107 rfl ?_
        obtain ⟨r12, e13, h⟩ := g_bind h
        refine go_callV0 (q := 111) (as := [.int (((s.1 32) + 1) + 1)]) (rest := [.int ((s.1 32) + 1), .ref 23]) (st2 := [.int r12, .int ((s.1 32) + 1), .ref 23]) (w2 := wW (ss s 32 ((s.1 32) + 1))) dX9_readsSigns_108 cX9_202 (t_X9_sign (ss s 32 ((s.1 32) + 1)) (((s.1 32) + 1) + 1) _ e13) (wg_23 _) rfl rfl rfl (Nat.le_of_ble_eq_true rfl) (by decide) ⟨Nat.le_refl _, Nat.le_refl _⟩ rfl rfl ?_
        obtain ⟨r14, e15, h⟩ := g_bind h
        refine go_callS0 (q := 114) (as := [.int r12]) (rest := [.int ((s.1 32) + 1), .ref 23]) (st2 := [.int r14, .int ((s.1 32) + 1), .ref 23]) (w2 := wW (ss s 32 ((s.1 32) + 1))) dX9_readsSigns_111 cX9_208 (t_X9_isDigit _ r12 _ e15) rfl rfl (Nat.le_of_ble_eq_true rfl) (by decide) ⟨Nat.le_refl _, Nat.le_refl _⟩ rfl rfl ?_
        refine go_if_eq (tgt := 121) (q := 117) dX9_readsSigns_114 (by decide) rfl (fun c16 => ?_) (fun c16 => ?_)
        · replace h := g_pos c16 h
          refine go_iconst (v := 1) (q := 122) dX9_readsSigns_121 (by decide) rfl ?_
          refine go_ls (ls2 := [some (.ref 23), some (.int t0), none]) ⟨rfl, rfl, trivial⟩ ?_
          exact b_X9_readsSigns_122 K2 r hK2 (ss s 32 ((s.1 32) + 1)) t0 ((s.1 32) + 1) 1 h
        · replace h := g_neg c16 h
          refine go_iconst (v := 2) (q := 118) dX9_readsSigns_117 (by decide) rfl ?_
          refine go_goto (tgt := 122) dX9_readsSigns_118 (by decide) ?_
          refine go_ls (ls2 := [some (.ref 23), some (.int t0), none]) ⟨rfl, rfl, trivial⟩ ?_
          exact b_X9_readsSigns_122 K2 r hK2 (ss s 32 ((s.1 32) + 1)) t0 ((s.1 32) + 1) 2 h
      · replace h := g_pos c11 h
        refine go_iconst (v := 0) (q := 95) dX9_readsSigns_94 (by decide) rfl ?_
        cases h
        exact go_iret dX9_readsSigns_95 rfl rfl (Nat.le_refl _) (Nat.le_refl _) ⟨rfl, rfl⟩
  · replace h := g_pos c1 h
    refine go_goto (tgt := 2) dX9_readsSigns_61 (by decide) ?_
    refine go_ls (ls2 := [some (.ref 23), some (.int t0), none]) ⟨rfl, rfl, trivial⟩ ?_
    exact hK2 s t0 h
def f_X9_readsSigns_51 (K2 : gS → Int32 → Option (Int32 × gS)) (s : gS) (x2 : Int32) : Option (Int32 × gS) :=
  f_X9_readsSigns_56 K2 s x2 1
set_option maxHeartbeats 4000000 in
set_option maxRecDepth 100000 in
theorem b_X9_readsSigns_51 (K2 : gS → Int32 → Option (Int32 × gS)) (r : Int32 × gS) (hK2 : ∀ (s : gS) (x1 : Int32) , K2 s x1 = some r → Go gTr yX9_readsSigns cX9_readsSigns 3 (some .boolean) 3 0 0 (fun r9 w9 => r9 = some (.int r.1) ∧ w9 = wW r.2) 0 0 (wW s) 2 [some (.ref 23), some (.int x1), none] []) : ∀ (s : gS) (x2 : Int32) , f_X9_readsSigns_51 K2 s x2 = some r → Go gTr yX9_readsSigns cX9_readsSigns 3 (some .boolean) 3 0 0 (fun r9 w9 => r9 = some (.int r.1) ∧ w9 = wW r.2) 0 0 (wW s) 51 [some (.ref 23), none, some (.int x2)] [] := by
  intro s x2 h
  rw [f_X9_readsSigns_51] at h
  refine go_iconst (v := 1) (q := 52) dX9_readsSigns_51 (by decide) rfl ?_
  refine go_goto (tgt := 56) dX9_readsSigns_52 (by decide) ?_
  refine go_ls (ls2 := [some (.ref 23), none, some (.int x2)]) ⟨rfl, rfl, trivial⟩ ?_
  exact b_X9_readsSigns_56 K2 r hK2 s x2 1 h
def f_X9_readsSigns_2 : Nat → gS → Int32 → Option (Int32 × gS)
  | 0, _, _ => none
  | φ + 1, s, x1 =>
    if x1 = 0 then
      some (1, s)
    else
      (f_X9_sign s (s.1 32)).bind fun r2 =>
      if r2 = 35 then
        f_X9_readsSigns_51 (f_X9_readsSigns_2 φ) s r2
      else
        if r2 = 43 then
          f_X9_readsSigns_51 (f_X9_readsSigns_2 φ) s r2
        else
          if r2 = 33 then
            f_X9_readsSigns_51 (f_X9_readsSigns_2 φ) s r2
          else
            if r2 = 63 then
              f_X9_readsSigns_51 (f_X9_readsSigns_2 φ) s r2
            else
              if r2 = 42 then
                f_X9_readsSigns_51 (f_X9_readsSigns_2 φ) s r2
              else
                if r2 = 61 then
                  f_X9_readsSigns_51 (f_X9_readsSigns_2 φ) s r2
                else
                  f_X9_readsSigns_56 (f_X9_readsSigns_2 φ) s r2 0
set_option maxHeartbeats 4000000 in
set_option maxRecDepth 100000 in
theorem b_X9_readsSigns_2 (r : Int32 × gS) : ∀ (φ : Nat) (s : gS) (x1 : Int32) , f_X9_readsSigns_2 φ s x1 = some r → Go gTr yX9_readsSigns cX9_readsSigns 3 (some .boolean) 3 0 0 (fun r9 w9 => r9 = some (.int r.1) ∧ w9 = wW r.2) 0 0 (wW s) 2 [some (.ref 23), some (.int x1), none] [] := by
  intro φ
  induction φ with
  | zero =>
    intro s x1 h
    exact absurd h (by intro h0; cases h0)
  | succ φ ih =>
    intro s x1 h
    rw [f_X9_readsSigns_2] at h
    refine go_iload_n (q := 3) dX9_readsSigns_2 rfl rfl ?_
    refine go_if_eq (tgt := 161) (q := 6) dX9_readsSigns_3 (by decide) rfl (fun c1 => ?_) (fun c1 => ?_)
    · replace h := g_pos c1 h
      refine go_iconst (v := 1) (q := 162) dX9_readsSigns_161 (by decide) rfl ?_
      cases h
      exact go_iret dX9_readsSigns_162 rfl rfl (Nat.le_refl _) (Nat.le_refl _) ⟨rfl, rfl⟩
    · replace h := g_neg c1 h
      refine go_aload_n (q := 7) dX9_readsSigns_6 rfl rfl ?_
      refine go_aload_n (q := 8) dX9_readsSigns_7 rfl rfl ?_
      refine go_get (v := .int (s.1 32)) (q := 11) dX9_readsSigns_8 fX9_205 (wg_23 _) rfl rfl ?_
      obtain ⟨r2, e3, h⟩ := g_bind h
      refine go_callV0 (q := 14) (as := [.int (s.1 32)]) (rest := []) (st2 := [.int r2]) (w2 := wW s) dX9_readsSigns_11 cX9_202 (t_X9_sign s (s.1 32) _ e3) (wg_23 _) rfl rfl rfl (Nat.le_of_ble_eq_true rfl) (by decide) ⟨Nat.le_refl _, Nat.le_refl _⟩ rfl rfl ?_
      refine go_istore_n (ls2 := [some (.ref 23), some (.int x1), some (.int r2)]) (q := 15) dX9_readsSigns_14 (by decide) rfl rfl ?_
      refine go_iload_n (q := 16) dX9_readsSigns_15 rfl rfl ?_
      refine go_bipush (v := 35) (q := 18) dX9_readsSigns_16 (by decide) rfl ?_
      refine go_icmp_eq (tgt := 51) (q := 21) dX9_readsSigns_18 (by decide) rfl (fun c4 => ?_) (fun c4 => ?_)
      · replace h := g_pos c4 h
        refine go_ls (ls2 := [some (.ref 23), none, some (.int r2)]) ⟨rfl, rfl, trivial⟩ ?_
        exact b_X9_readsSigns_51 (f_X9_readsSigns_2 φ) r (fun s x1 h => ih s x1 h) s r2 h
      · replace h := g_neg c4 h
        refine go_iload_n (q := 22) dX9_readsSigns_21 rfl rfl ?_
        refine go_bipush (v := 43) (q := 24) dX9_readsSigns_22 (by decide) rfl ?_
        refine go_icmp_eq (tgt := 51) (q := 27) dX9_readsSigns_24 (by decide) rfl (fun c5 => ?_) (fun c5 => ?_)
        · replace h := g_pos c5 h
          refine go_ls (ls2 := [some (.ref 23), none, some (.int r2)]) ⟨rfl, rfl, trivial⟩ ?_
          exact b_X9_readsSigns_51 (f_X9_readsSigns_2 φ) r (fun s x1 h => ih s x1 h) s r2 h
        · replace h := g_neg c5 h
          refine go_iload_n (q := 28) dX9_readsSigns_27 rfl rfl ?_
          refine go_bipush (v := 33) (q := 30) dX9_readsSigns_28 (by decide) rfl ?_
          refine go_icmp_eq (tgt := 51) (q := 33) dX9_readsSigns_30 (by decide) rfl (fun c6 => ?_) (fun c6 => ?_)
          · replace h := g_pos c6 h
            refine go_ls (ls2 := [some (.ref 23), none, some (.int r2)]) ⟨rfl, rfl, trivial⟩ ?_
            exact b_X9_readsSigns_51 (f_X9_readsSigns_2 φ) r (fun s x1 h => ih s x1 h) s r2 h
          · replace h := g_neg c6 h
            refine go_iload_n (q := 34) dX9_readsSigns_33 rfl rfl ?_
            refine go_bipush (v := 63) (q := 36) dX9_readsSigns_34 (by decide) rfl ?_
            refine go_icmp_eq (tgt := 51) (q := 39) dX9_readsSigns_36 (by decide) rfl (fun c7 => ?_) (fun c7 => ?_)
            · replace h := g_pos c7 h
              refine go_ls (ls2 := [some (.ref 23), none, some (.int r2)]) ⟨rfl, rfl, trivial⟩ ?_
              exact b_X9_readsSigns_51 (f_X9_readsSigns_2 φ) r (fun s x1 h => ih s x1 h) s r2 h
            · replace h := g_neg c7 h
              refine go_iload_n (q := 40) dX9_readsSigns_39 rfl rfl ?_
              refine go_bipush (v := 42) (q := 42) dX9_readsSigns_40 (by decide) rfl ?_
              refine go_icmp_eq (tgt := 51) (q := 45) dX9_readsSigns_42 (by decide) rfl (fun c8 => ?_) (fun c8 => ?_)
              · replace h := g_pos c8 h
                refine go_ls (ls2 := [some (.ref 23), none, some (.int r2)]) ⟨rfl, rfl, trivial⟩ ?_
                exact b_X9_readsSigns_51 (f_X9_readsSigns_2 φ) r (fun s x1 h => ih s x1 h) s r2 h
              · replace h := g_neg c8 h
                refine go_iload_n (q := 46) dX9_readsSigns_45 rfl rfl ?_
                refine go_bipush (v := 61) (q := 48) dX9_readsSigns_46 (by decide) rfl ?_
                refine go_icmp_ne (tgt := 55) (q := 51) dX9_readsSigns_48 (by decide) rfl (fun c9 => ?_) (fun c9 => ?_)
                · replace h := g_neg c9 h
                  refine go_iconst (v := 0) (q := 56) dX9_readsSigns_55 (by decide) rfl ?_
                  refine go_ls (ls2 := [some (.ref 23), none, some (.int r2)]) ⟨rfl, rfl, trivial⟩ ?_
                  exact b_X9_readsSigns_56 (f_X9_readsSigns_2 φ) r (fun s x1 h => ih s x1 h) s r2 0 h
                · replace h := g_pos c9 h
                  refine go_ls (ls2 := [some (.ref 23), none, some (.int r2)]) ⟨rfl, rfl, trivial⟩ ?_
                  exact b_X9_readsSigns_51 (f_X9_readsSigns_2 φ) r (fun s x1 h => ih s x1 h) s r2 h
def f_X9_readsSigns (s : gS) : Option (Int32 × gS) :=
  f_X9_readsSigns_2 gφ s 1
set_option maxHeartbeats 4000000 in
set_option maxRecDepth 100000 in
theorem b_X9_readsSigns (r : Int32 × gS) : ∀ (s : gS) , f_X9_readsSigns s = some r → Go gTr yX9_readsSigns cX9_readsSigns 3 (some .boolean) 3 0 0 (fun r9 w9 => r9 = some (.int r.1) ∧ w9 = wW r.2) 0 0 (wW s) 0 [some (.ref 23), none, none] [] := by
  intro s h
  rw [f_X9_readsSigns] at h
  refine go_iconst (v := 1) (q := 1) dX9_readsSigns_0 (by decide) rfl ?_
  refine go_istore_n (ls2 := [some (.ref 23), some (.int 1), none]) (q := 2) dX9_readsSigns_1 (by decide) rfl rfl ?_
  refine go_ls (ls2 := [some (.ref 23), some (.int 1), none]) ⟨rfl, rfl, trivial⟩ ?_
  exact b_X9_readsSigns_2 r gφ s 1 h
theorem t_X9_readsSigns (s : gS) (r : Int32 × gS) (h : f_X9_readsSigns s = some r) : Cal 3 mX9_readsSigns [.ref 23] (wW s) 0 0 (some (.int r.1)) (wW r.2) := Cal.of (by decide) (g_cats rfl) (Nat.le_of_ble_eq_true rfl) (b_X9_readsSigns r s h)
def f_X9_readsMove_89 (s : gS) (x1 : Int32) (x2 : Int32) : Option (Int32 × gS) :=
  if (s.1 20) ≤ x1 then
    some (0, s)
  else
    if x2 < (s.1 21) then
      (f_X9_play s (((s.1 20) * x2) + x1)).bind fun r3 =>
      if r3.1 = (-1 : Int32) then
        some (0, r3.2)
      else
        some (1, r3.2)
    else
      some (0, s)
set_option maxHeartbeats 4000000 in
set_option maxRecDepth 100000 in
theorem b_X9_readsMove_89 (r : Int32 × gS) : ∀ (s : gS) (x1 : Int32) (x2 : Int32) , f_X9_readsMove_89 s x1 x2 = some r → Go gTr yX9_readsMove cX9_readsMove 3 (some .boolean) 8 0 0 (fun r9 w9 => r9 = some (.int r.1) ∧ w9 = wW r.2) 0 0 (wW s) 89 [some (.ref 23), some (.int x1), some (.int x2)] [] := by
  intro s x1 x2 h
  rw [f_X9_readsMove_89] at h
  refine go_iload_n (q := 90) dX9_readsMove_89 rfl rfl ?_
  refine go_aload_n (q := 91) dX9_readsMove_90 rfl rfl ?_
  refine go_get (v := .int (s.1 20)) (q := 94) dX9_readsMove_91 fX9_7 (wg_23 _) rfl rfl ?_
  refine go_icmp_ge (tgt := 105) (q := 97) dX9_readsMove_94 (by decide) rfl (fun c1 => ?_) (fun c1 => ?_)
  · replace h := g_pos c1 h
    refine go_iconst (v := 0) (q := 106) dX9_readsMove_105 (by decide) rfl ?_
    cases h
    exact go_iret dX9_readsMove_106 rfl rfl (Nat.le_refl _) (Nat.le_refl _) ⟨rfl, rfl⟩
  · replace h := g_neg c1 h
    refine go_iload_n (q := 98) dX9_readsMove_97 rfl rfl ?_
    refine go_aload_n (q := 99) dX9_readsMove_98 rfl rfl ?_
    refine go_get (v := .int (s.1 21)) (q := 102) dX9_readsMove_99 fX9_13 (wg_23 _) rfl rfl ?_
    refine go_icmp_lt (tgt := 107) (q := 105) dX9_readsMove_102 (by decide) rfl (fun c2 => ?_) (fun c2 => ?_)
    · replace h := g_pos c2 h
      refine go_aload_n (q := 108) dX9_readsMove_107 rfl rfl ?_
      refine go_aload_n (q := 109) dX9_readsMove_108 rfl rfl ?_
      refine go_get (v := .int (s.1 20)) (q := 112) dX9_readsMove_109 fX9_7 (wg_23 _) rfl rfl ?_
      refine go_iload_n (q := 113) dX9_readsMove_112 rfl rfl ?_
      refine go_imul (q := 114) dX9_readsMove_113 rfl ?_
      refine go_iload_n (q := 115) dX9_readsMove_114 rfl rfl ?_
      refine go_iadd (q := 116) dX9_readsMove_115 rfl ?_
      obtain ⟨r3, e4, h⟩ := g_bind h
      refine go_callV0 (q := 119) (as := [.int (((s.1 20) * x2) + x1)]) (rest := []) (st2 := [.int r3.1]) (w2 := wW r3.2) dX9_readsMove_116 cX9_221 (t_X9_play s (((s.1 20) * x2) + x1) _ e4) (wg_23 _) rfl rfl rfl (Nat.le_of_ble_eq_true rfl) (by decide) ⟨Nat.le_refl _, Nat.le_refl _⟩ rfl rfl ?_
      refine go_iconst (v := (-1 : Int32)) (q := 120) dX9_readsMove_119 (by decide) rfl ?_
      refine go_icmp_eq (tgt := 127) (q := 123) dX9_readsMove_120 (by decide) rfl (fun c5 => ?_) (fun c5 => ?_)
      · replace h := g_pos c5 h
        refine go_iconst (v := 0) (q := 128) dX9_readsMove_127 (by decide) rfl ?_
        cases h
        exact go_iret dX9_readsMove_128 rfl rfl (Nat.le_refl _) (Nat.le_refl _) ⟨rfl, rfl⟩
      · replace h := g_neg c5 h
        refine go_iconst (v := 1) (q := 124) dX9_readsMove_123 (by decide) rfl ?_
        refine go_goto (tgt := 128) dX9_readsMove_124 (by decide) ?_
        cases h
        exact go_iret dX9_readsMove_128 rfl rfl (Nat.le_refl _) (Nat.le_refl _) ⟨rfl, rfl⟩
    · replace h := g_neg c2 h
      refine go_iconst (v := 0) (q := 106) dX9_readsMove_105 (by decide) rfl ?_
      cases h
      exact go_iret dX9_readsMove_106 rfl rfl (Nat.le_refl _) (Nat.le_refl _) ⟨rfl, rfl⟩
def f_X9_readsMove (s : gS) : Option (Int32 × gS) :=
  (f_X9_readsNumber s).bind fun r1 =>
  if r1.1 = 0 then
    some (0, r1.2)
  else
    (f_X9_isCellAt r1.2 (r1.2.1 32)).bind fun r4 =>
    if r4 = 0 then
      some (0, r1.2)
    else
      (f_X9_sign r1.2 (r1.2.1 32)).bind fun r7 =>
      (f_X9_sign r1.2 ((r1.2.1 32) + 1)).bind fun r9 =>
      (f_X9_readsSigns (ss r1.2 32 ((r1.2.1 32) + 2))).bind fun r11 =>
      if r11.1 = 0 then
        some (0, r11.2)
      else
        if (r11.2.1 33) ≤ (r11.2.1 32) then
          f_X9_readsMove_89 r11.2 (r7 - 97) (r9 - 49)
        else
          (f_X9_sign r11.2 (r11.2.1 32)).bind fun r15 =>
          if r15 = 32 then
            f_X9_readsMove_89 r11.2 (r7 - 97) (r9 - 49)
          else
            some (0, r11.2)
set_option maxHeartbeats 4000000 in
set_option maxRecDepth 100000 in
theorem b_X9_readsMove (r : Int32 × gS) : ∀ (s : gS) , f_X9_readsMove s = some r → Go gTr yX9_readsMove cX9_readsMove 3 (some .boolean) 8 0 0 (fun r9 w9 => r9 = some (.int r.1) ∧ w9 = wW r.2) 0 0 (wW s) 0 [some (.ref 23), none, none] [] := by
  intro s h
  rw [f_X9_readsMove] at h
  refine go_aload_n (q := 1) dX9_readsMove_0 rfl rfl ?_
  obtain ⟨r1, e2, h⟩ := g_bind h
  refine go_callV0 (q := 4) (as := []) (rest := []) (st2 := [.int r1.1]) (w2 := wW r1.2) dX9_readsMove_1 cX9_214 (t_X9_readsNumber s _ e2) (wg_23 _) rfl rfl rfl (Nat.le_of_ble_eq_true rfl) (by decide) ⟨Nat.le_refl _, Nat.le_refl _⟩ rfl rfl ?_
  refine go_if_eq (tgt := 18) (q := 7) dX9_readsMove_4 (by decide) rfl (fun c3 => ?_) (fun c3 => ?_)
  · replace h := g_pos c3 h
    refine go_iconst (v := 0) (q := 19) dX9_readsMove_18 (by decide) rfl ?_
    cases h
    exact go_iret dX9_readsMove_19 rfl rfl (Nat.le_refl _) (Nat.le_refl _) ⟨rfl, rfl⟩
  · replace h := g_neg c3 h
    refine go_aload_n (q := 8) dX9_readsMove_7 rfl rfl ?_
    refine go_aload_n (q := 9) dX9_readsMove_8 rfl rfl ?_
    refine go_get (v := .int (r1.2.1 32)) (q := 12) dX9_readsMove_9 fX9_205 (wg_23 _) rfl rfl ?_
    obtain ⟨r4, e5, h⟩ := g_bind h
    refine go_callV0 (q := 15) (as := [.int (r1.2.1 32)]) (rest := []) (st2 := [.int r4]) (w2 := wW r1.2) dX9_readsMove_12 cX9_211 (t_X9_isCellAt r1.2 (r1.2.1 32) _ e5) (wg_23 _) rfl rfl rfl (Nat.le_of_ble_eq_true rfl) (by decide) ⟨Nat.le_refl _, Nat.le_refl _⟩ rfl rfl ?_
    refine go_if_ne (tgt := 20) (q := 18) dX9_readsMove_15 (by decide) rfl (fun c6 => ?_) (fun c6 => ?_)
    · replace h := g_neg c6 h
      refine go_aload_n (q := 21) dX9_readsMove_20 rfl rfl ?_
      refine go_aload_n (q := 22) dX9_readsMove_21 rfl rfl ?_
      refine go_get (v := .int (r1.2.1 32)) (q := 25) dX9_readsMove_22 fX9_205 (wg_23 _) rfl rfl ?_
      obtain ⟨r7, e8, h⟩ := g_bind h
      refine go_callV0 (q := 28) (as := [.int (r1.2.1 32)]) (rest := []) (st2 := [.int r7]) (w2 := wW r1.2) dX9_readsMove_25 cX9_202 (t_X9_sign r1.2 (r1.2.1 32) _ e8) (wg_23 _) rfl rfl rfl (Nat.le_of_ble_eq_true rfl) (by decide) ⟨Nat.le_refl _, Nat.le_refl _⟩ rfl rfl ?_
      refine go_bipush (v := 97) (q := 30) dX9_readsMove_28 (by decide) rfl ?_
      refine go_isub (q := 31) dX9_readsMove_30 rfl ?_
      refine go_istore_n (ls2 := [some (.ref 23), some (.int (r7 - 97)), none]) (q := 32) dX9_readsMove_31 (by decide) rfl rfl ?_
      refine go_aload_n (q := 33) dX9_readsMove_32 rfl rfl ?_
      refine go_aload_n (q := 34) dX9_readsMove_33 rfl rfl ?_
      refine go_get (v := .int (r1.2.1 32)) (q := 37) dX9_readsMove_34 fX9_205 (wg_23 _) rfl rfl ?_
      refine go_iconst (v := 1) (q := 38) dX9_readsMove_37 (by decide) rfl ?_
      refine go_iadd (q := 39) dX9_readsMove_38 rfl ?_
      obtain ⟨r9, e10, h⟩ := g_bind h
      refine go_callV0 (q := 42) (as := [.int ((r1.2.1 32) + 1)]) (rest := []) (st2 := [.int r9]) (w2 := wW r1.2) dX9_readsMove_39 cX9_202 (t_X9_sign r1.2 ((r1.2.1 32) + 1) _ e10) (wg_23 _) rfl rfl rfl (Nat.le_of_ble_eq_true rfl) (by decide) ⟨Nat.le_refl _, Nat.le_refl _⟩ rfl rfl ?_
      refine go_bipush (v := 49) (q := 44) dX9_readsMove_42 (by decide) rfl ?_
      refine go_isub (q := 45) dX9_readsMove_44 rfl ?_
      refine go_istore_n (ls2 := [some (.ref 23), some (.int (r7 - 97)), some (.int (r9 - 49))]) (q := 46) dX9_readsMove_45 (by decide) rfl rfl ?_
      refine go_aload_n (q := 47) dX9_readsMove_46 rfl rfl ?_
      refine go_aload_n (q := 48) dX9_readsMove_47 rfl rfl ?_
      refine go_get (v := .int (r1.2.1 32)) (q := 51) dX9_readsMove_48 fX9_205 (wg_23 _) rfl rfl ?_
      refine go_iconst (v := 2) (q := 52) dX9_readsMove_51 (by decide) rfl ?_
      refine go_iadd (q := 53) dX9_readsMove_52 rfl ?_
      refine go_put (w2 := wW (ss r1.2 32 ((r1.2.1 32) + 2))) (q := 56) dX9_readsMove_53 fX9_205 (wg_23 _) (Nat.le_of_ble_eq_true rfl) (fun _ => rfl) (fun _ => rfl) (wp_23_25 _ _) rfl ?_
      refine go_aload_n (q := 57) dX9_readsMove_56 rfl rfl ?_
      obtain ⟨r11, e12, h⟩ := g_bind h
      refine go_callV0 (q := 60) (as := []) (rest := []) (st2 := [.int r11.1]) (w2 := wW r11.2) dX9_readsMove_57 cX9_218 (t_X9_readsSigns (ss r1.2 32 ((r1.2.1 32) + 2)) _ e12) (wg_23 _) rfl rfl rfl (Nat.le_of_ble_eq_true rfl) (by decide) ⟨Nat.le_refl _, Nat.le_refl _⟩ rfl rfl ?_
      refine go_if_eq (tgt := 87) (q := 63) dX9_readsMove_60 (by decide) rfl (fun c13 => ?_) (fun c13 => ?_)
      · replace h := g_pos c13 h
        refine go_iconst (v := 0) (q := 88) dX9_readsMove_87 (by decide) rfl ?_
        cases h
        exact go_iret dX9_readsMove_88 rfl rfl (Nat.le_refl _) (Nat.le_refl _) ⟨rfl, rfl⟩
      · replace h := g_neg c13 h
        refine go_aload_n (q := 64) dX9_readsMove_63 rfl rfl ?_
        refine go_get (v := .int (r11.2.1 32)) (q := 67) dX9_readsMove_64 fX9_205 (wg_23 _) rfl rfl ?_
        refine go_aload_n (q := 68) dX9_readsMove_67 rfl rfl ?_
        refine go_get (v := .int (r11.2.1 33)) (q := 71) dX9_readsMove_68 fX9_199 (wg_23 _) rfl rfl ?_
        refine go_icmp_ge (tgt := 89) (q := 74) dX9_readsMove_71 (by decide) rfl (fun c14 => ?_) (fun c14 => ?_)
        · replace h := g_pos c14 h
          refine go_ls (ls2 := [some (.ref 23), some (.int (r7 - 97)), some (.int (r9 - 49))]) ⟨rfl, rfl, rfl, trivial⟩ ?_
          exact b_X9_readsMove_89 r r11.2 (r7 - 97) (r9 - 49) h
        · replace h := g_neg c14 h
          refine go_aload_n (q := 75) dX9_readsMove_74 rfl rfl ?_
          refine go_aload_n (q := 76) dX9_readsMove_75 rfl rfl ?_
          refine go_get (v := .int (r11.2.1 32)) (q := 79) dX9_readsMove_76 fX9_205 (wg_23 _) rfl rfl ?_
          obtain ⟨r15, e16, h⟩ := g_bind h
          refine go_callV0 (q := 82) (as := [.int (r11.2.1 32)]) (rest := []) (st2 := [.int r15]) (w2 := wW r11.2) dX9_readsMove_79 cX9_202 (t_X9_sign r11.2 (r11.2.1 32) _ e16) (wg_23 _) rfl rfl rfl (Nat.le_of_ble_eq_true rfl) (by decide) ⟨Nat.le_refl _, Nat.le_refl _⟩ rfl rfl ?_
          refine go_bipush (v := 32) (q := 84) dX9_readsMove_82 (by decide) rfl ?_
          refine go_icmp_eq (tgt := 89) (q := 87) dX9_readsMove_84 (by decide) rfl (fun c17 => ?_) (fun c17 => ?_)
          · replace h := g_pos c17 h
            refine go_ls (ls2 := [some (.ref 23), some (.int (r7 - 97)), some (.int (r9 - 49))]) ⟨rfl, rfl, rfl, trivial⟩ ?_
            exact b_X9_readsMove_89 r r11.2 (r7 - 97) (r9 - 49) h
          · replace h := g_neg c17 h
            refine go_iconst (v := 0) (q := 88) dX9_readsMove_87 (by decide) rfl ?_
            cases h
            exact go_iret dX9_readsMove_88 rfl rfl (Nat.le_refl _) (Nat.le_refl _) ⟨rfl, rfl⟩
    · replace h := g_pos c6 h
      refine go_iconst (v := 0) (q := 19) dX9_readsMove_18 (by decide) rfl ?_
      cases h
      exact go_iret dX9_readsMove_19 rfl rfl (Nat.le_refl _) (Nat.le_refl _) ⟨rfl, rfl⟩
theorem t_X9_readsMove (s : gS) (r : Int32 × gS) (h : f_X9_readsMove s = some r) : Cal 8 mX9_readsMove [.ref 23] (wW s) 0 0 (some (.int r.1)) (wW r.2) := Cal.of (by decide) (g_cats rfl) (Nat.le_of_ble_eq_true rfl) (b_X9_readsMove r s h)
def f_X9_read_105 (K41 : gS → Int32 → Int32 → Option (Int32 × gS)) (s : gS) (x2 : Int32) (t0 : Int32) : Option (Int32 × gS) :=
  K41 (ss s 32 ((s.1 32) + 1)) x2 t0
set_option maxHeartbeats 4000000 in
set_option maxRecDepth 100000 in
theorem b_X9_read_105 (K41 : gS → Int32 → Int32 → Option (Int32 × gS)) (r : Int32 × gS) (hK41 : ∀ (s : gS) (x2 : Int32) (x3 : Int32) , K41 s x2 x3 = some r → Go gTr yX9_read cX9_read 4 (some .int) 9 0 0 (fun r9 w9 => r9 = some (.int r.1) ∧ w9 = wW r.2) 0 0 (wW s) 41 [some (.ref 23), none, some (.int x2), some (.int x3)] []) : ∀ (s : gS) (x2 : Int32) (t0 : Int32) , f_X9_read_105 K41 s x2 t0 = some r → Go gTr yX9_read cX9_read 4 (some .int) 9 0 0 (fun r9 w9 => r9 = some (.int r.1) ∧ w9 = wW r.2) 0 0 (wW s) 105 [some (.ref 23), none, some (.int x2), none] [.int t0] := by
  intro s x2 t0 h
  rw [f_X9_read_105] at h
  refine go_istore_n (ls2 := [some (.ref 23), none, some (.int x2), some (.int t0)]) (q := 106) dX9_read_105 (by decide) rfl rfl ?_
  refine go_aload_n (q := 107) dX9_read_106 rfl rfl ?_
  refine go_aload_n (q := 108) dX9_read_107 rfl rfl ?_
  refine go_get (v := .int (s.1 32)) (q := 111) dX9_read_108 fX9_205 (wg_23 _) rfl rfl ?_
  refine go_iconst (v := 1) (q := 112) dX9_read_111 (by decide) rfl ?_
  refine go_iadd (q := 113) dX9_read_112 rfl ?_
  refine go_put (w2 := wW (ss s 32 ((s.1 32) + 1))) (q := 116) dX9_read_113 fX9_205 (wg_23 _) (Nat.le_of_ble_eq_true rfl) (fun _ => rfl) (fun _ => rfl) (wp_23_25 _ _) rfl ?_
  refine go_goto (tgt := 41) dX9_read_116 (by decide) ?_
  refine go_ls (ls2 := [some (.ref 23), none, some (.int x2), some (.int t0)]) ⟨rfl, rfl, rfl, trivial⟩ ?_
  exact hK41 (ss s 32 ((s.1 32) + 1)) x2 t0 h
def f_X9_read_86 (K41 : gS → Int32 → Int32 → Option (Int32 × gS)) (s : gS) (x2 : Int32) (t1 : Int32) : Option (Int32 × gS) :=
  if (s.1 33) ≤ (s.1 32) then
    f_X9_read_105 K41 (ss s 34 t1) x2 0
  else
    f_X9_read_105 K41 (ss s 34 t1) x2 1
set_option maxHeartbeats 4000000 in
set_option maxRecDepth 100000 in
theorem b_X9_read_86 (K41 : gS → Int32 → Int32 → Option (Int32 × gS)) (r : Int32 × gS) (hK41 : ∀ (s : gS) (x2 : Int32) (x3 : Int32) , K41 s x2 x3 = some r → Go gTr yX9_read cX9_read 4 (some .int) 9 0 0 (fun r9 w9 => r9 = some (.int r.1) ∧ w9 = wW r.2) 0 0 (wW s) 41 [some (.ref 23), none, some (.int x2), some (.int x3)] []) : ∀ (s : gS) (x2 : Int32) (t1 : Int32) , f_X9_read_86 K41 s x2 t1 = some r → Go gTr yX9_read cX9_read 4 (some .int) 9 0 0 (fun r9 w9 => r9 = some (.int r.1) ∧ w9 = wW r.2) 0 0 (wW s) 86 [some (.ref 23), none, some (.int x2), none] [.int t1, .ref 23] := by
  intro s x2 t1 h
  rw [f_X9_read_86] at h
  refine go_put (w2 := wW (ss s 34 t1)) (q := 89) dX9_read_86 fX9_224 (wg_23 _) (Nat.le_of_ble_eq_true rfl) (fun _ => rfl) (fun _ => rfl) (wp_23_27 _ _) rfl ?_
  refine go_aload_n (q := 90) dX9_read_89 rfl rfl ?_
  refine go_get (v := .int (s.1 32)) (q := 93) dX9_read_90 fX9_205 (wg_23 _) rfl rfl ?_
  refine go_aload_n (q := 94) dX9_read_93 rfl rfl ?_
  refine go_get (v := .int (s.1 33)) (q := 97) dX9_read_94 fX9_199 (wg_23 _) rfl rfl ?_
  refine go_icmp_ge (tgt := 104) (q := 100) dX9_read_97 (by decide) rfl (fun c1 => ?_) (fun c1 => ?_)
  · replace h := g_pos c1 h
    refine go_iconst (v := 0) (q := 105) dX9_read_104 (by decide) rfl ?_
    refine go_ls (ls2 := [some (.ref 23), none, some (.int x2), none]) ⟨rfl, rfl, trivial⟩ ?_
    exact b_X9_read_105 K41 r hK41 (ss s 34 t1) x2 0 h
  · replace h := g_neg c1 h
    refine go_iconst (v := 1) (q := 101) dX9_read_100 (by decide) rfl ?_
    refine go_goto (tgt := 105) dX9_read_101 (by decide) ?_
    refine go_ls (ls2 := [some (.ref 23), none, some (.int x2), none]) ⟨rfl, rfl, trivial⟩ ?_
    exact b_X9_read_105 K41 r hK41 (ss s 34 t1) x2 1 h
def f_X9_read_41 : Nat → gS → Int32 → Int32 → Option (Int32 × gS)
  | 0, _, _, _ => none
  | φ + 1, s, x2, x3 =>
    if x3 = 0 then
      some (x2, (ss s 31 0))
    else
      (f_X9_readsMove s).bind fun r2 =>
      if r2.1 = 0 then
        f_X9_read_41 φ r2.2 x2 r2.1
      else
        if (r2.2.1 33) ≤ (r2.2.1 32) then
          f_X9_read_86 (f_X9_read_41 φ) r2.2 (x2 + 1) (r2.2.1 33)
        else
          f_X9_read_86 (f_X9_read_41 φ) r2.2 (x2 + 1) ((r2.2.1 32) + 1)
set_option maxHeartbeats 4000000 in
set_option maxRecDepth 100000 in
theorem b_X9_read_41 (r : Int32 × gS) : ∀ (φ : Nat) (s : gS) (x2 : Int32) (x3 : Int32) , f_X9_read_41 φ s x2 x3 = some r → Go gTr yX9_read cX9_read 4 (some .int) 9 0 0 (fun r9 w9 => r9 = some (.int r.1) ∧ w9 = wW r.2) 0 0 (wW s) 41 [some (.ref 23), none, some (.int x2), some (.int x3)] [] := by
  intro φ
  induction φ with
  | zero =>
    intro s x2 x3 h
    exact absurd h (by intro h0; cases h0)
  | succ φ ih =>
    intro s x2 x3 h
    rw [f_X9_read_41] at h
    refine go_iload_n (q := 42) dX9_read_41 rfl rfl ?_
    refine go_if_eq (tgt := 119) (q := 45) dX9_read_42 (by decide) rfl (fun c1 => ?_) (fun c1 => ?_)
    · replace h := g_pos c1 h
      refine go_aload_n (q := 120) dX9_read_119 rfl rfl ?_
      refine go_iconst (v := 0) (q := 121) dX9_read_120 (by decide) rfl ?_
      refine go_put (w2 := wW (ss s 31 0)) (q := 124) dX9_read_121 fX9_193 (wg_23 _) (Nat.le_of_ble_eq_true rfl) (fun _ => rfl) (fun _ => rfl) (wp_23_24 _ _) rfl ?_
      refine go_iload_n (q := 125) dX9_read_124 rfl rfl ?_
      cases h
      exact go_iret dX9_read_125 rfl rfl (Nat.le_refl _) (Nat.le_refl _) ⟨rfl, rfl⟩
    · replace h := g_neg c1 h
      refine go_aload_n (q := 46) dX9_read_45 rfl rfl ?_
      obtain ⟨r2, e3, h⟩ := g_bind h
      refine go_callV0 (q := 49) (as := []) (rest := []) (st2 := [.int r2.1]) (w2 := wW r2.2) dX9_read_46 cX9_227 (t_X9_readsMove s _ e3) (wg_23 _) rfl rfl rfl (Nat.le_of_ble_eq_true rfl) (by decide) ⟨Nat.le_refl _, Nat.le_refl _⟩ rfl rfl ?_
      refine go_istore_n (ls2 := [some (.ref 23), none, some (.int x2), some (.int r2.1)]) (q := 50) dX9_read_49 (by decide) rfl rfl ?_
      refine go_iload_n (q := 51) dX9_read_50 rfl rfl ?_
      refine go_if_ne (tgt := 57) (q := 54) dX9_read_51 (by decide) rfl (fun c4 => ?_) (fun c4 => ?_)
      · replace h := g_neg c4 h
        refine go_iload_n (q := 58) dX9_read_57 rfl rfl ?_
        refine go_iconst (v := 1) (q := 59) dX9_read_58 (by decide) rfl ?_
        refine go_iadd (q := 60) dX9_read_59 rfl ?_
        refine go_istore_n (ls2 := [some (.ref 23), none, some (.int (x2 + 1)), some (.int r2.1)]) (q := 61) dX9_read_60 (by decide) rfl rfl ?_
        refine go_aload_n (q := 62) dX9_read_61 rfl rfl ?_
        refine go_aload_n (q := 63) dX9_read_62 rfl rfl ?_
        refine go_get (v := .int (r2.2.1 32)) (q := 66) dX9_read_63 fX9_205 (wg_23 _) rfl rfl ?_
        refine go_aload_n (q := 67) dX9_read_66 rfl rfl ?_
        refine go_get (v := .int (r2.2.1 33)) (q := 70) dX9_read_67 fX9_199 (wg_23 _) rfl rfl ?_
        refine go_icmp_ge (tgt := 82) (q := 73) dX9_read_70 (by decide) rfl (fun c5 => ?_) (fun c5 => ?_)
        · replace h := g_pos c5 h
          refine go_aload_n (q := 83) dX9_read_82 rfl rfl ?_
          refine go_get (v := .int (r2.2.1 33)) (q := 86) dX9_read_83 fX9_199 (wg_23 _) rfl rfl ?_
          refine go_ls (ls2 := [some (.ref 23), none, some (.int (x2 + 1)), none]) ⟨rfl, rfl, trivial⟩ ?_
          exact b_X9_read_86 (f_X9_read_41 φ) r (fun s x2 x3 h => ih s x2 x3 h) r2.2 (x2 + 1) (r2.2.1 33) h
        · replace h := g_neg c5 h
          refine go_aload_n (q := 74) dX9_read_73 rfl rfl ?_
          refine go_get (v := .int (r2.2.1 32)) (q := 77) dX9_read_74 fX9_205 (wg_23 _) rfl rfl ?_
          refine go_iconst (v := 1) (q := 78) dX9_read_77 (by decide) rfl ?_
          refine go_iadd (q := 79) dX9_read_78 rfl ?_
          refine go_goto (tgt := 86) dX9_read_79 (by decide) ?_
          refine go_ls (ls2 := [some (.ref 23), none, some (.int (x2 + 1)), none]) ⟨rfl, rfl, trivial⟩ ?_
          exact b_X9_read_86 (f_X9_read_41 φ) r (fun s x2 x3 h => ih s x2 x3 h) r2.2 (x2 + 1) ((r2.2.1 32) + 1) h
      · replace h := g_pos c4 h
        refine go_goto (tgt := 41) dX9_read_54 (by decide) ?_
        refine go_ls (ls2 := [some (.ref 23), none, some (.int x2), some (.int r2.1)]) ⟨rfl, rfl, rfl, trivial⟩ ?_
        exact ih r2.2 x2 r2.1 h
def f_X9_read_40 (s : gS) (x2 : Int32) (t0 : Int32) : Option (Int32 × gS) :=
  f_X9_read_41 gφ s x2 t0
set_option maxHeartbeats 4000000 in
set_option maxRecDepth 100000 in
theorem b_X9_read_40 (r : Int32 × gS) : ∀ (s : gS) (x2 : Int32) (t0 : Int32) , f_X9_read_40 s x2 t0 = some r → Go gTr yX9_read cX9_read 4 (some .int) 9 0 0 (fun r9 w9 => r9 = some (.int r.1) ∧ w9 = wW r.2) 0 0 (wW s) 40 [some (.ref 23), none, some (.int x2), none] [.int t0] := by
  intro s x2 t0 h
  rw [f_X9_read_40] at h
  refine go_istore_n (ls2 := [some (.ref 23), none, some (.int x2), some (.int t0)]) (q := 41) dX9_read_40 (by decide) rfl rfl ?_
  refine go_ls (ls2 := [some (.ref 23), none, some (.int x2), some (.int t0)]) ⟨rfl, rfl, rfl, trivial⟩ ?_
  exact b_X9_read_41 r gφ s x2 t0 h
def f_X9_read (s : gS) (x1 : Int32) : Option (Int32 × gS) :=
  if x1 < 0 then
    some ((-1 : Int32), s)
  else
    if x1 ≤ (s.1 31) then
      if x1 ≤ 0 then
        f_X9_read_40 (ss (ss (ss s 33 x1) 32 0) 34 0) 0 0
      else
        f_X9_read_40 (ss (ss (ss s 33 x1) 32 0) 34 0) 0 1
    else
      some ((-1 : Int32), s)
set_option maxHeartbeats 4000000 in
set_option maxRecDepth 100000 in
theorem b_X9_read (r : Int32 × gS) : ∀ (s : gS) (x1 : Int32) , f_X9_read s x1 = some r → Go gTr yX9_read cX9_read 4 (some .int) 9 0 0 (fun r9 w9 => r9 = some (.int r.1) ∧ w9 = wW r.2) 0 0 (wW s) 0 [some (.ref 23), some (.int x1), none, none] [] := by
  intro s x1 h
  rw [f_X9_read] at h
  refine go_iload_n (q := 1) dX9_read_0 rfl rfl ?_
  refine go_if_lt (tgt := 12) (q := 4) dX9_read_1 (by decide) rfl (fun c1 => ?_) (fun c1 => ?_)
  · replace h := g_pos c1 h
    refine go_iconst (v := (-1 : Int32)) (q := 13) dX9_read_12 (by decide) rfl ?_
    cases h
    exact go_iret dX9_read_13 rfl rfl (Nat.le_refl _) (Nat.le_refl _) ⟨rfl, rfl⟩
  · replace h := g_neg c1 h
    refine go_iload_n (q := 5) dX9_read_4 rfl rfl ?_
    refine go_aload_n (q := 6) dX9_read_5 rfl rfl ?_
    refine go_get (v := .int (s.1 31)) (q := 9) dX9_read_6 fX9_193 (wg_23 _) rfl rfl ?_
    refine go_icmp_le (tgt := 14) (q := 12) dX9_read_9 (by decide) rfl (fun c2 => ?_) (fun c2 => ?_)
    · replace h := g_pos c2 h
      refine go_aload_n (q := 15) dX9_read_14 rfl rfl ?_
      refine go_iload_n (q := 16) dX9_read_15 rfl rfl ?_
      refine go_put (w2 := wW (ss s 33 x1)) (q := 19) dX9_read_16 fX9_199 (wg_23 _) (Nat.le_of_ble_eq_true rfl) (fun _ => rfl) (fun _ => rfl) (wp_23_26 _ _) rfl ?_
      refine go_aload_n (q := 20) dX9_read_19 rfl rfl ?_
      refine go_iconst (v := 0) (q := 21) dX9_read_20 (by decide) rfl ?_
      refine go_put (w2 := wW (ss (ss s 33 x1) 32 0)) (q := 24) dX9_read_21 fX9_205 (wg_23 _) (Nat.le_of_ble_eq_true rfl) (fun _ => rfl) (fun _ => rfl) (wp_23_25 _ _) rfl ?_
      refine go_aload_n (q := 25) dX9_read_24 rfl rfl ?_
      refine go_iconst (v := 0) (q := 26) dX9_read_25 (by decide) rfl ?_
      refine go_put (w2 := wW (ss (ss (ss s 33 x1) 32 0) 34 0)) (q := 29) dX9_read_26 fX9_224 (wg_23 _) (Nat.le_of_ble_eq_true rfl) (fun _ => rfl) (fun _ => rfl) (wp_23_27 _ _) rfl ?_
      refine go_iconst (v := 0) (q := 30) dX9_read_29 (by decide) rfl ?_
      refine go_istore_n (ls2 := [some (.ref 23), some (.int x1), some (.int 0), none]) (q := 31) dX9_read_30 (by decide) rfl rfl ?_
      refine go_iload_n (q := 32) dX9_read_31 rfl rfl ?_
      refine go_if_le (tgt := 39) (q := 35) dX9_read_32 (by decide) rfl (fun c3 => ?_) (fun c3 => ?_)
      · replace h := g_pos c3 h
        refine go_iconst (v := 0) (q := 40) dX9_read_39 (by decide) rfl ?_
        refine go_ls (ls2 := [some (.ref 23), none, some (.int 0), none]) ⟨rfl, rfl, trivial⟩ ?_
        exact b_X9_read_40 r (ss (ss (ss s 33 x1) 32 0) 34 0) 0 0 h
      · replace h := g_neg c3 h
        refine go_iconst (v := 1) (q := 36) dX9_read_35 (by decide) rfl ?_
        refine go_goto (tgt := 40) dX9_read_36 (by decide) ?_
        refine go_ls (ls2 := [some (.ref 23), none, some (.int 0), none]) ⟨rfl, rfl, trivial⟩ ?_
        exact b_X9_read_40 r (ss (ss (ss s 33 x1) 32 0) 34 0) 0 1 h
    · replace h := g_neg c2 h
      refine go_iconst (v := (-1 : Int32)) (q := 13) dX9_read_12 (by decide) rfl ?_
      cases h
      exact go_iret dX9_read_13 rfl rfl (Nat.le_refl _) (Nat.le_refl _) ⟨rfl, rfl⟩
theorem t_X9_read (s : gS) (x1 : Int32) (r : Int32 × gS) (h : f_X9_read s x1 = some r) : Cal 9 mX9_read [.ref 23, .int x1] (wW s) 0 0 (some (.int r.1)) (wW r.2) := Cal.of (by decide) (g_cats rfl) (Nat.le_of_ble_eq_true rfl) (b_X9_read r s x1 h)
def f_X9_lookFar (s : gS) (x1 : Int32) : Option (Int32 × gS) :=
  (f_X9_in x1 20 (19 + (s.1 23))).bind fun r1 =>
  if r1 = 0 then
    (f_X9_in x1 40 (39 + ((s.1 20) * (s.1 21)))).bind fun r4 =>
    if r4 = 0 then
      (f_X9_in x1 60 65).bind fun r7 =>
      if r7 = 0 then
        some ((-1 : Int32), s)
      else
        if inB (x1 - 60) 6 = true then
          some (s.2 21 (x1 - 60).toNatClampNeg, s)
        else none
    else
      (f_X9_setsUp s (s.1 23)).bind fun r11 =>
      if inB (x1 - 40) 16 = true then
        some (r11.2 22 (x1 - 40).toNatClampNeg, r11)
      else none
  else
    if inB (x1 - 20) 16 = true then
      some (s.2 20 (x1 - 20).toNatClampNeg, s)
    else none
set_option maxHeartbeats 4000000 in
set_option maxRecDepth 100000 in
theorem b_X9_lookFar (r : Int32 × gS) : ∀ (s : gS) (x1 : Int32) , f_X9_lookFar s x1 = some r → Go gTr yX9_lookFar cX9_lookFar 2 (some .int) 7 0 0 (fun r9 w9 => r9 = some (.int r.1) ∧ w9 = wW r.2) 0 0 (wW s) 0 [some (.ref 23), some (.int x1)] [] := by
  intro s x1 h
  rw [f_X9_lookFar] at h
  refine go_iload_n (q := 1) dX9_lookFar_0 rfl rfl ?_
  refine go_bipush (v := 20) (q := 3) dX9_lookFar_1 (by decide) rfl ?_
  refine go_bipush (v := 19) (q := 5) dX9_lookFar_3 (by decide) rfl ?_
  refine go_aload_n (q := 6) dX9_lookFar_5 rfl rfl ?_
  refine go_get (v := .int (s.1 23)) (q := 9) dX9_lookFar_6 fX9_78 (wg_23 _) rfl rfl ?_
  refine go_iadd (q := 10) dX9_lookFar_9 rfl ?_
  obtain ⟨r1, e2, h⟩ := g_bind h
  refine go_callS0 (q := 13) (as := [.int x1, .int 20, .int (19 + (s.1 23))]) (rest := []) (st2 := [.int r1]) (w2 := wW s) dX9_lookFar_10 cX9_67 (t_X9_in _ x1 20 (19 + (s.1 23)) _ e2) rfl rfl (Nat.le_of_ble_eq_true rfl) (by decide) ⟨Nat.le_refl _, Nat.le_refl _⟩ rfl rfl ?_
  refine go_if_eq (tgt := 26) (q := 16) dX9_lookFar_13 (by decide) rfl (fun c3 => ?_) (fun c3 => ?_)
  · replace h := g_pos c3 h
    refine go_iload_n (q := 27) dX9_lookFar_26 rfl rfl ?_
    refine go_bipush (v := 40) (q := 29) dX9_lookFar_27 (by decide) rfl ?_
    refine go_bipush (v := 39) (q := 31) dX9_lookFar_29 (by decide) rfl ?_
    refine go_aload_n (q := 32) dX9_lookFar_31 rfl rfl ?_
    refine go_get (v := .int (s.1 20)) (q := 35) dX9_lookFar_32 fX9_7 (wg_23 _) rfl rfl ?_
    refine go_aload_n (q := 36) dX9_lookFar_35 rfl rfl ?_
    refine go_get (v := .int (s.1 21)) (q := 39) dX9_lookFar_36 fX9_13 (wg_23 _) rfl rfl ?_
    refine go_imul (q := 40) dX9_lookFar_39 rfl ?_
    refine go_iadd (q := 41) dX9_lookFar_40 rfl ?_
    obtain ⟨r4, e5, h⟩ := g_bind h
    refine go_callS0 (q := 44) (as := [.int x1, .int 40, .int (39 + ((s.1 20) * (s.1 21)))]) (rest := []) (st2 := [.int r4]) (w2 := wW s) dX9_lookFar_41 cX9_67 (t_X9_in _ x1 40 (39 + ((s.1 20) * (s.1 21))) _ e5) rfl rfl (Nat.le_of_ble_eq_true rfl) (by decide) ⟨Nat.le_refl _, Nat.le_refl _⟩ rfl rfl ?_
    refine go_if_eq (tgt := 65) (q := 47) dX9_lookFar_44 (by decide) rfl (fun c6 => ?_) (fun c6 => ?_)
    · replace h := g_pos c6 h
      refine go_iload_n (q := 66) dX9_lookFar_65 rfl rfl ?_
      refine go_bipush (v := 60) (q := 68) dX9_lookFar_66 (by decide) rfl ?_
      refine go_bipush (v := 65) (q := 70) dX9_lookFar_68 (by decide) rfl ?_
      obtain ⟨r7, e8, h⟩ := g_bind h
      refine go_callS0 (q := 73) (as := [.int x1, .int 60, .int 65]) (rest := []) (st2 := [.int r7]) (w2 := wW s) dX9_lookFar_70 cX9_67 (t_X9_in _ x1 60 65 _ e8) rfl rfl (Nat.le_of_ble_eq_true rfl) (by decide) ⟨Nat.le_refl _, Nat.le_refl _⟩ rfl rfl ?_
      refine go_if_eq (tgt := 88) (q := 76) dX9_lookFar_73 (by decide) rfl (fun c9 => ?_) (fun c9 => ?_)
      · replace h := g_pos c9 h
        refine go_iconst (v := (-1 : Int32)) (q := 89) dX9_lookFar_88 (by decide) rfl ?_
        cases h
        exact go_iret dX9_lookFar_89 rfl rfl (Nat.le_refl _) (Nat.le_refl _) ⟨rfl, rfl⟩
      · replace h := g_neg c9 h
        refine go_aload_n (q := 77) dX9_lookFar_76 rfl rfl ?_
        refine go_get (v := .ref 25) (q := 80) dX9_lookFar_77 fX9_26 (wg_23 _) rfl rfl ?_
        refine go_iload_n (q := 81) dX9_lookFar_80 rfl rfl ?_
        refine go_bipush (v := 60) (q := 83) dX9_lookFar_81 (by decide) rfl ?_
        refine go_isub (q := 84) dX9_lookFar_83 rfl ?_
        obtain ⟨g10, h⟩ := g_guard h
        refine go_iald (f := s.2 21) (q := 85) dX9_lookFar_84 (wg_25 _) (inB_in g10) rfl ?_
        refine go_goto (tgt := 89) dX9_lookFar_85 (by decide) ?_
        cases h
        exact go_iret dX9_lookFar_89 rfl rfl (Nat.le_refl _) (Nat.le_refl _) ⟨rfl, rfl⟩
    · replace h := g_neg c6 h
      refine go_aload_n (q := 48) dX9_lookFar_47 rfl rfl ?_
      refine go_aload_n (q := 49) dX9_lookFar_48 rfl rfl ?_
      refine go_get (v := .int (s.1 23)) (q := 52) dX9_lookFar_49 fX9_78 (wg_23 _) rfl rfl ?_
      obtain ⟨r11, e12, h⟩ := g_bind h
      refine go_callV0 (q := 55) (as := [.int (s.1 23)]) (rest := []) (st2 := []) (w2 := wW r11) dX9_lookFar_52 cX9_106 (t_X9_setsUp s (s.1 23) _ e12) (wg_23 _) rfl rfl rfl (Nat.le_of_ble_eq_true rfl) (by decide) ⟨Nat.le_refl _, Nat.le_refl _⟩ rfl rfl ?_
      refine go_aload_n (q := 56) dX9_lookFar_55 rfl rfl ?_
      refine go_get (v := .ref 26) (q := 59) dX9_lookFar_56 fX9_29 (wg_23 _) rfl rfl ?_
      refine go_iload_n (q := 60) dX9_lookFar_59 rfl rfl ?_
      refine go_bipush (v := 40) (q := 62) dX9_lookFar_60 (by decide) rfl ?_
      refine go_isub (q := 63) dX9_lookFar_62 rfl ?_
      obtain ⟨g13, h⟩ := g_guard h
      refine go_iald (f := r11.2 22) (q := 64) dX9_lookFar_63 (wg_26 _) (inB_in g13) rfl ?_
      cases h
      exact go_iret dX9_lookFar_64 rfl rfl (Nat.le_refl _) (Nat.le_refl _) ⟨rfl, rfl⟩
  · replace h := g_neg c3 h
    refine go_aload_n (q := 17) dX9_lookFar_16 rfl rfl ?_
    refine go_get (v := .ref 24) (q := 20) dX9_lookFar_17 fX9_22 (wg_23 _) rfl rfl ?_
    refine go_iload_n (q := 21) dX9_lookFar_20 rfl rfl ?_
    refine go_bipush (v := 20) (q := 23) dX9_lookFar_21 (by decide) rfl ?_
    refine go_isub (q := 24) dX9_lookFar_23 rfl ?_
    obtain ⟨g14, h⟩ := g_guard h
    refine go_iald (f := s.2 20) (q := 25) dX9_lookFar_24 (wg_24 _) (inB_in g14) rfl ?_
    cases h
    exact go_iret dX9_lookFar_25 rfl rfl (Nat.le_refl _) (Nat.le_refl _) ⟨rfl, rfl⟩
theorem t_X9_lookFar (s : gS) (x1 : Int32) (r : Int32 × gS) (h : f_X9_lookFar s x1 = some r) : Cal 7 mX9_lookFar [.ref 23, .int x1] (wW s) 0 0 (some (.int r.1)) (wW r.2) := Cal.of (by decide) (g_cats rfl) (Nat.le_of_ble_eq_true rfl) (b_X9_lookFar r s x1 h)
def f_X9_look (s : gS) (x1 : Int32) : Option (Int32 × gS) :=
  if x1 = 0 then
    some (s.1 20, s)
  else
    if x1 = 1 then
      some (s.1 21, s)
    else
      if x1 = 2 then
        some (s.1 22, s)
      else
        if x1 = 3 then
          if (s.1 25) = 0 then
            some (0, s)
          else
            some (1, s)
        else
          if x1 = 4 then
            if (s.1 26) = 0 then
              some (0, s)
            else
              some (1, s)
          else
            if x1 = 5 then
              some (s.1 23, s)
            else
              if x1 = 6 then
                (f_X9_setsUp s (s.1 23)).bind fun r10 =>
                if (r10.1 28) = 3 then
                  some (0, r10)
                else
                  some ((r10.1 28) + 1, r10)
              else
                if x1 = 7 then
                  (f_X9_setsUp s (s.1 23)).bind fun r14 =>
                  if (r14.1 28) = 3 then
                    some ((r14.1 23) - (r14.1 23) / 2 * 2, r14)
                  else
                    some ((-1 : Int32), r14)
                else
                  if x1 = 8 then
                    some (s.1 24, s)
                  else
                    if x1 = 9 then
                      some (s.1 31, s)
                    else
                      if x1 = 10 then
                        some (s.1 34, s)
                      else
                        (f_X9_lookFar s x1).bind fun r20 =>
                        some (r20.1, r20.2)
set_option maxHeartbeats 4000000 in
set_option maxRecDepth 100000 in
theorem b_X9_look (r : Int32 × gS) : ∀ (s : gS) (x1 : Int32) , f_X9_look s x1 = some r → Go gTr yX9_look cX9_look 2 (some .int) 8 0 0 (fun r9 w9 => r9 = some (.int r.1) ∧ w9 = wW r.2) 0 0 (wW s) 0 [some (.ref 23), some (.int x1)] [] := by
  intro s x1 h
  rw [f_X9_look] at h
  refine go_iload_n (q := 1) dX9_look_0 rfl rfl ?_
  by_cases c1 : x1 = 0
  · replace h := g_pos c1 h
    refine go_tblIn (off := 59) (tgt := 60) dX9_look_1 (by rw [c1]; decide) (by rw [c1]; decide) (by rw [c1]; rfl) (by decide) ?_
    refine go_aload_n (q := 61) dX9_look_60 rfl rfl ?_
    refine go_get (v := .int (s.1 20)) (q := 64) dX9_look_61 fX9_7 (wg_23 _) rfl rfl ?_
    cases h
    exact go_iret dX9_look_64 rfl rfl (Nat.le_refl _) (Nat.le_refl _) ⟨rfl, rfl⟩
  replace h := g_neg c1 h
  by_cases c2 : x1 = 1
  · replace h := g_pos c2 h
    refine go_tblIn (off := 64) (tgt := 65) dX9_look_1 (by rw [c2]; decide) (by rw [c2]; decide) (by rw [c2]; rfl) (by decide) ?_
    refine go_aload_n (q := 66) dX9_look_65 rfl rfl ?_
    refine go_get (v := .int (s.1 21)) (q := 69) dX9_look_66 fX9_13 (wg_23 _) rfl rfl ?_
    cases h
    exact go_iret dX9_look_69 rfl rfl (Nat.le_refl _) (Nat.le_refl _) ⟨rfl, rfl⟩
  replace h := g_neg c2 h
  by_cases c3 : x1 = 2
  · replace h := g_pos c3 h
    refine go_tblIn (off := 69) (tgt := 70) dX9_look_1 (by rw [c3]; decide) (by rw [c3]; decide) (by rw [c3]; rfl) (by decide) ?_
    refine go_aload_n (q := 71) dX9_look_70 rfl rfl ?_
    refine go_get (v := .int (s.1 22)) (q := 74) dX9_look_71 fX9_16 (wg_23 _) rfl rfl ?_
    cases h
    exact go_iret dX9_look_74 rfl rfl (Nat.le_refl _) (Nat.le_refl _) ⟨rfl, rfl⟩
  replace h := g_neg c3 h
  by_cases c4 : x1 = 3
  · replace h := g_pos c4 h
    refine go_tblIn (off := 74) (tgt := 75) dX9_look_1 (by rw [c4]; decide) (by rw [c4]; decide) (by rw [c4]; rfl) (by decide) ?_
    refine go_aload_n (q := 76) dX9_look_75 rfl rfl ?_
    refine go_get (v := .int (s.1 25)) (q := 79) dX9_look_76 fX9_71 (wg_23 _) rfl rfl ?_
    refine go_if_eq (tgt := 86) (q := 82) dX9_look_79 (by decide) rfl (fun c5 => ?_) (fun c5 => ?_)
    · replace h := g_pos c5 h
      refine go_iconst (v := 0) (q := 87) dX9_look_86 (by decide) rfl ?_
      cases h
      exact go_iret dX9_look_87 rfl rfl (Nat.le_refl _) (Nat.le_refl _) ⟨rfl, rfl⟩
    · replace h := g_neg c5 h
      refine go_iconst (v := 1) (q := 83) dX9_look_82 (by decide) rfl ?_
      refine go_goto (tgt := 87) dX9_look_83 (by decide) ?_
      cases h
      exact go_iret dX9_look_87 rfl rfl (Nat.le_refl _) (Nat.le_refl _) ⟨rfl, rfl⟩
  replace h := g_neg c4 h
  by_cases c6 : x1 = 4
  · replace h := g_pos c6 h
    refine go_tblIn (off := 87) (tgt := 88) dX9_look_1 (by rw [c6]; decide) (by rw [c6]; decide) (by rw [c6]; rfl) (by decide) ?_
    refine go_aload_n (q := 89) dX9_look_88 rfl rfl ?_
    refine go_get (v := .int (s.1 26)) (q := 92) dX9_look_89 fX9_75 (wg_23 _) rfl rfl ?_
    refine go_if_eq (tgt := 99) (q := 95) dX9_look_92 (by decide) rfl (fun c7 => ?_) (fun c7 => ?_)
    · replace h := g_pos c7 h
      refine go_iconst (v := 0) (q := 100) dX9_look_99 (by decide) rfl ?_
      cases h
      exact go_iret dX9_look_100 rfl rfl (Nat.le_refl _) (Nat.le_refl _) ⟨rfl, rfl⟩
    · replace h := g_neg c7 h
      refine go_iconst (v := 1) (q := 96) dX9_look_95 (by decide) rfl ?_
      refine go_goto (tgt := 100) dX9_look_96 (by decide) ?_
      cases h
      exact go_iret dX9_look_100 rfl rfl (Nat.le_refl _) (Nat.le_refl _) ⟨rfl, rfl⟩
  replace h := g_neg c6 h
  by_cases c8 : x1 = 5
  · replace h := g_pos c8 h
    refine go_tblIn (off := 100) (tgt := 101) dX9_look_1 (by rw [c8]; decide) (by rw [c8]; decide) (by rw [c8]; rfl) (by decide) ?_
    refine go_aload_n (q := 102) dX9_look_101 rfl rfl ?_
    refine go_get (v := .int (s.1 23)) (q := 105) dX9_look_102 fX9_78 (wg_23 _) rfl rfl ?_
    cases h
    exact go_iret dX9_look_105 rfl rfl (Nat.le_refl _) (Nat.le_refl _) ⟨rfl, rfl⟩
  replace h := g_neg c8 h
  by_cases c9 : x1 = 6
  · replace h := g_pos c9 h
    refine go_tblIn (off := 105) (tgt := 106) dX9_look_1 (by rw [c9]; decide) (by rw [c9]; decide) (by rw [c9]; rfl) (by decide) ?_
    refine go_aload_n (q := 107) dX9_look_106 rfl rfl ?_
    refine go_aload_n (q := 108) dX9_look_107 rfl rfl ?_
    refine go_get (v := .int (s.1 23)) (q := 111) dX9_look_108 fX9_78 (wg_23 _) rfl rfl ?_
    obtain ⟨r10, e11, h⟩ := g_bind h
    refine go_callV0 (q := 114) (as := [.int (s.1 23)]) (rest := []) (st2 := []) (w2 := wW r10) dX9_look_111 cX9_106 (t_X9_setsUp s (s.1 23) _ e11) (wg_23 _) rfl rfl rfl (Nat.le_of_ble_eq_true rfl) (by decide) ⟨Nat.le_refl _, Nat.le_refl _⟩ rfl rfl ?_
    refine go_aload_n (q := 115) dX9_look_114 rfl rfl ?_
    refine go_get (v := .int (r10.1 28)) (q := 118) dX9_look_115 fX9_84 (wg_23 _) rfl rfl ?_
    refine go_iconst (v := 3) (q := 119) dX9_look_118 (by decide) rfl ?_
    refine go_icmp_ne (tgt := 126) (q := 122) dX9_look_119 (by decide) rfl (fun c12 => ?_) (fun c12 => ?_)
    · replace h := g_neg c12 h
      refine go_aload_n (q := 127) dX9_look_126 rfl rfl ?_
      refine go_get (v := .int (r10.1 28)) (q := 130) dX9_look_127 fX9_84 (wg_23 _) rfl rfl ?_
      refine go_iconst (v := 1) (q := 131) dX9_look_130 (by decide) rfl ?_
      refine go_iadd (q := 132) dX9_look_131 rfl ?_
      cases h
      exact go_iret dX9_look_132 rfl rfl (Nat.le_refl _) (Nat.le_refl _) ⟨rfl, rfl⟩
    · replace h := g_pos c12 h
      refine go_iconst (v := 0) (q := 123) dX9_look_122 (by decide) rfl ?_
      refine go_goto (tgt := 132) dX9_look_123 (by decide) ?_
      cases h
      exact go_iret dX9_look_132 rfl rfl (Nat.le_refl _) (Nat.le_refl _) ⟨rfl, rfl⟩
  replace h := g_neg c9 h
  by_cases c13 : x1 = 7
  · replace h := g_pos c13 h
    refine go_tblIn (off := 132) (tgt := 133) dX9_look_1 (by rw [c13]; decide) (by rw [c13]; decide) (by rw [c13]; rfl) (by decide) ?_
    refine go_aload_n (q := 134) dX9_look_133 rfl rfl ?_
    refine go_aload_n (q := 135) dX9_look_134 rfl rfl ?_
    refine go_get (v := .int (s.1 23)) (q := 138) dX9_look_135 fX9_78 (wg_23 _) rfl rfl ?_
    obtain ⟨r14, e15, h⟩ := g_bind h
    refine go_callV0 (q := 141) (as := [.int (s.1 23)]) (rest := []) (st2 := []) (w2 := wW r14) dX9_look_138 cX9_106 (t_X9_setsUp s (s.1 23) _ e15) (wg_23 _) rfl rfl rfl (Nat.le_of_ble_eq_true rfl) (by decide) ⟨Nat.le_refl _, Nat.le_refl _⟩ rfl rfl ?_
    refine go_aload_n (q := 142) dX9_look_141 rfl rfl ?_
    refine go_get (v := .int (r14.1 28)) (q := 145) dX9_look_142 fX9_84 (wg_23 _) rfl rfl ?_
    refine go_iconst (v := 3) (q := 146) dX9_look_145 (by decide) rfl ?_
    refine go_icmp_ne (tgt := 158) (q := 149) dX9_look_146 (by decide) rfl (fun c16 => ?_) (fun c16 => ?_)
    · replace h := g_neg c16 h
      refine go_iconst (v := (-1 : Int32)) (q := 159) dX9_look_158 (by decide) rfl ?_
      cases h
      exact go_iret dX9_look_159 rfl rfl (Nat.le_refl _) (Nat.le_refl _) ⟨rfl, rfl⟩
    · replace h := g_pos c16 h
      refine go_aload_n (q := 150) dX9_look_149 rfl rfl ?_
      refine go_get (v := .int (r14.1 23)) (q := 153) dX9_look_150 fX9_78 (wg_23 _) rfl rfl ?_
      refine go_iconst (v := 2) (q := 154) dX9_look_153 (by decide) rfl ?_
      refine go_irem (q := 155) dX9_look_154 (by decide) rfl ?_
      refine go_goto (tgt := 159) dX9_look_155 (by decide) ?_
      cases h
      exact go_iret dX9_look_159 rfl rfl (Nat.le_refl _) (Nat.le_refl _) ⟨rfl, rfl⟩
  replace h := g_neg c13 h
  by_cases c17 : x1 = 8
  · replace h := g_pos c17 h
    refine go_tblIn (off := 159) (tgt := 160) dX9_look_1 (by rw [c17]; decide) (by rw [c17]; decide) (by rw [c17]; rfl) (by decide) ?_
    refine go_aload_n (q := 161) dX9_look_160 rfl rfl ?_
    refine go_get (v := .int (s.1 24)) (q := 164) dX9_look_161 fX9_19 (wg_23 _) rfl rfl ?_
    cases h
    exact go_iret dX9_look_164 rfl rfl (Nat.le_refl _) (Nat.le_refl _) ⟨rfl, rfl⟩
  replace h := g_neg c17 h
  by_cases c18 : x1 = 9
  · replace h := g_pos c18 h
    refine go_tblIn (off := 164) (tgt := 165) dX9_look_1 (by rw [c18]; decide) (by rw [c18]; decide) (by rw [c18]; rfl) (by decide) ?_
    refine go_aload_n (q := 166) dX9_look_165 rfl rfl ?_
    refine go_get (v := .int (s.1 31)) (q := 169) dX9_look_166 fX9_193 (wg_23 _) rfl rfl ?_
    cases h
    exact go_iret dX9_look_169 rfl rfl (Nat.le_refl _) (Nat.le_refl _) ⟨rfl, rfl⟩
  replace h := g_neg c18 h
  by_cases c19 : x1 = 10
  · replace h := g_pos c19 h
    refine go_tblIn (off := 169) (tgt := 170) dX9_look_1 (by rw [c19]; decide) (by rw [c19]; decide) (by rw [c19]; rfl) (by decide) ?_
    refine go_aload_n (q := 171) dX9_look_170 rfl rfl ?_
    refine go_get (v := .int (s.1 34)) (q := 174) dX9_look_171 fX9_224 (wg_23 _) rfl rfl ?_
    cases h
    exact go_iret dX9_look_174 rfl rfl (Nat.le_refl _) (Nat.le_refl _) ⟨rfl, rfl⟩
  replace h := g_neg c19 h
  refine go_tblOut (tgt := 175) dX9_look_1 (by have e_c1 := lv_neT c1 (a := 0) rfl; have e_c2 := lv_neT c2 (a := 1) rfl; have e_c3 := lv_neT c3 (a := 2) rfl; have e_c4 := lv_neT c4 (a := 3) rfl; have e_c6 := lv_neT c6 (a := 4) rfl; have e_c8 := lv_neT c8 (a := 5) rfl; have e_c9 := lv_neT c9 (a := 6) rfl; have e_c13 := lv_neT c13 (a := 7) rfl; have e_c17 := lv_neT c17 (a := 8) rfl; have e_c18 := lv_neT c18 (a := 9) rfl; have e_c19 := lv_neT c19 (a := 10) rfl; omega) (by decide) ?_
  refine go_aload_n (q := 176) dX9_look_175 rfl rfl ?_
  refine go_iload_n (q := 177) dX9_look_176 rfl rfl ?_
  obtain ⟨r20, e21, h⟩ := g_bind h
  refine go_callV0 (q := 180) (as := [.int x1]) (rest := []) (st2 := [.int r20.1]) (w2 := wW r20.2) dX9_look_177 cX9_230 (t_X9_lookFar s x1 _ e21) (wg_23 _) rfl rfl rfl (Nat.le_of_ble_eq_true rfl) (by decide) ⟨Nat.le_refl _, Nat.le_refl _⟩ rfl rfl ?_
  cases h
  exact go_iret dX9_look_180 rfl rfl (Nat.le_refl _) (Nat.le_refl _) ⟨rfl, rfl⟩
theorem t_X9_look (s : gS) (x1 : Int32) (r : Int32 × gS) (h : f_X9_look s x1 = some r) : Cal 8 mX9_look [.ref 23, .int x1] (wW s) 0 0 (some (.int r.1)) (wW r.2) := Cal.of (by decide) (g_cats rfl) (Nat.le_of_ble_eq_true rfl) (b_X9_look r s x1 h)
