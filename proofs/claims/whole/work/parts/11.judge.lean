def f_X2_tellDepth (s : gS) (x1 : Int32) : Option (Int32 × gS) :=
  if x1 < 1 then
    some (0, s)
  else
    if x1 ≤ 4 then
      some (1, (ss (ss s 9 x1) 10 0))
    else
      some (0, s)
set_option maxHeartbeats 4000000 in
set_option maxRecDepth 100000 in
theorem b_X2_tellDepth (r : Int32 × gS) : ∀ (s : gS) (x1 : Int32) , f_X2_tellDepth s x1 = some r → Go gTr yX2_tellDepth cX2_tellDepth 2 (some .boolean) 1 0 0 (fun r9 w9 => r9 = some (.int r.1) ∧ w9 = wW r.2) 0 0 (wW s) 0 [some (.ref 5), some (.int x1)] [] := by
  intro s x1 h
  rw [f_X2_tellDepth] at h
  refine go_iload_n (q := 1) dX2_tellDepth_0 rfl rfl ?_
  refine go_iconst (v := 1) (q := 2) dX2_tellDepth_1 (by decide) rfl ?_
  refine go_icmp_lt (tgt := 10) (q := 5) dX2_tellDepth_2 (by decide) rfl (fun c1 => ?_) (fun c1 => ?_)
  · replace h := g_pos c1 h
    refine go_iconst (v := 0) (q := 11) dX2_tellDepth_10 (by decide) rfl ?_
    cases h
    exact go_iret dX2_tellDepth_11 rfl rfl (Nat.le_refl _) (Nat.le_refl _) ⟨rfl, rfl⟩
  · replace h := g_neg c1 h
    refine go_iload_n (q := 6) dX2_tellDepth_5 rfl rfl ?_
    refine go_iconst (v := 4) (q := 7) dX2_tellDepth_6 (by decide) rfl ?_
    refine go_icmp_le (tgt := 12) (q := 10) dX2_tellDepth_7 (by decide) rfl (fun c2 => ?_) (fun c2 => ?_)
    · replace h := g_pos c2 h
      refine go_aload_n (q := 13) dX2_tellDepth_12 rfl rfl ?_
      refine go_iload_n (q := 14) dX2_tellDepth_13 rfl rfl ?_
      refine go_put (w2 := wW (ss s 9 x1)) (q := 17) dX2_tellDepth_14 fX2_37 (wg_5 _) (Nat.le_of_ble_eq_true rfl) (fun _ => rfl) (fun _ => rfl) (wp_5_6 _ _) rfl ?_
      refine go_aload_n (q := 18) dX2_tellDepth_17 rfl rfl ?_
      refine go_iconst (v := 0) (q := 19) dX2_tellDepth_18 (by decide) rfl ?_
      refine go_put (w2 := wW (ss (ss s 9 x1) 10 0)) (q := 22) dX2_tellDepth_19 fX2_47 (wg_5 _) (Nat.le_of_ble_eq_true rfl) (fun _ => rfl) (fun _ => rfl) (wp_5_7 _ _) rfl ?_
      refine go_iconst (v := 1) (q := 23) dX2_tellDepth_22 (by decide) rfl ?_
      cases h
      exact go_iret dX2_tellDepth_23 rfl rfl (Nat.le_refl _) (Nat.le_refl _) ⟨rfl, rfl⟩
    · replace h := g_neg c2 h
      refine go_iconst (v := 0) (q := 11) dX2_tellDepth_10 (by decide) rfl ?_
      cases h
      exact go_iret dX2_tellDepth_11 rfl rfl (Nat.le_refl _) (Nat.le_refl _) ⟨rfl, rfl⟩
theorem t_X2_tellDepth (s : gS) (x1 : Int32) (r : Int32 × gS) (h : f_X2_tellDepth s x1 = some r) : Cal 1 mX2_tellDepth [.ref 5, .int x1] (wW s) 0 0 (some (.int r.1)) (wW r.2) := Cal.of (by decide) (g_cats rfl) (Nat.le_of_ble_eq_true rfl) (b_X2_tellDepth r s x1 h)
def f_X2_tellWeight (s : gS) (x1 : Int32) (x2 : Int32) : Option (Int32 × gS) :=
  if x1 < 0 then
    some (0, s)
  else
    if 6 ≤ x1 then
      some (0, s)
    else
      if x2 < 0 then
        some (0, s)
      else
        if x2 ≤ 99 then
          if inB x1 6 = true then
            some (1, (sa s 1 x1.toNatClampNeg x2))
          else none
        else
          some (0, s)
set_option maxHeartbeats 4000000 in
set_option maxRecDepth 100000 in
theorem b_X2_tellWeight (r : Int32 × gS) : ∀ (s : gS) (x1 : Int32) (x2 : Int32) , f_X2_tellWeight s x1 x2 = some r → Go gTr yX2_tellWeight cX2_tellWeight 3 (some .boolean) 1 0 0 (fun r9 w9 => r9 = some (.int r.1) ∧ w9 = wW r.2) 0 0 (wW s) 0 [some (.ref 5), some (.int x1), some (.int x2)] [] := by
  intro s x1 x2 h
  rw [f_X2_tellWeight] at h
  refine go_iload_n (q := 1) dX2_tellWeight_0 rfl rfl ?_
  refine go_if_lt (tgt := 23) (q := 4) dX2_tellWeight_1 (by decide) rfl (fun c1 => ?_) (fun c1 => ?_)
  · replace h := g_pos c1 h
    refine go_iconst (v := 0) (q := 24) dX2_tellWeight_23 (by decide) rfl ?_
    cases h
    exact go_iret dX2_tellWeight_24 rfl rfl (Nat.le_refl _) (Nat.le_refl _) ⟨rfl, rfl⟩
  · replace h := g_neg c1 h
    refine go_iload_n (q := 5) dX2_tellWeight_4 rfl rfl ?_
    refine go_aload_n (q := 6) dX2_tellWeight_5 rfl rfl ?_
    refine go_get (v := .ref 6) (q := 9) dX2_tellWeight_6 fX2_27 (wg_5 _) rfl rfl ?_
    refine go_alen (v := 6) (q := 10) dX2_tellWeight_9 (by decide) (wg_6 _) rfl rfl ?_
    refine go_icmp_ge (tgt := 23) (q := 13) dX2_tellWeight_10 (by decide) rfl (fun c2 => ?_) (fun c2 => ?_)
    · replace h := g_pos c2 h
      refine go_iconst (v := 0) (q := 24) dX2_tellWeight_23 (by decide) rfl ?_
      cases h
      exact go_iret dX2_tellWeight_24 rfl rfl (Nat.le_refl _) (Nat.le_refl _) ⟨rfl, rfl⟩
    · replace h := g_neg c2 h
      refine go_iload_n (q := 14) dX2_tellWeight_13 rfl rfl ?_
      refine go_if_lt (tgt := 23) (q := 17) dX2_tellWeight_14 (by decide) rfl (fun c3 => ?_) (fun c3 => ?_)
      · replace h := g_pos c3 h
        refine go_iconst (v := 0) (q := 24) dX2_tellWeight_23 (by decide) rfl ?_
        cases h
        exact go_iret dX2_tellWeight_24 rfl rfl (Nat.le_refl _) (Nat.le_refl _) ⟨rfl, rfl⟩
      · replace h := g_neg c3 h
        refine go_iload_n (q := 18) dX2_tellWeight_17 rfl rfl ?_
        refine go_bipush (v := 99) (q := 20) dX2_tellWeight_18 (by decide) rfl ?_
        refine go_icmp_le (tgt := 25) (q := 23) dX2_tellWeight_20 (by decide) rfl (fun c4 => ?_) (fun c4 => ?_)
        · replace h := g_pos c4 h
          refine go_aload_n (q := 26) dX2_tellWeight_25 rfl rfl ?_
          refine go_get (v := .ref 6) (q := 29) dX2_tellWeight_26 fX2_27 (wg_5 _) rfl rfl ?_
          refine go_iload_n (q := 30) dX2_tellWeight_29 rfl rfl ?_
          refine go_iload_n (q := 31) dX2_tellWeight_30 rfl rfl ?_
          obtain ⟨g5, h⟩ := g_guard h
          refine go_iast (w2 := wW (sa s 1 x1.toNatClampNeg x2)) (q := 32) dX2_tellWeight_31 (wg_6 _) (inB_in g5) (wa_6 _ _ _) rfl ?_
          refine go_iconst (v := 1) (q := 33) dX2_tellWeight_32 (by decide) rfl ?_
          cases h
          exact go_iret dX2_tellWeight_33 rfl rfl (Nat.le_refl _) (Nat.le_refl _) ⟨rfl, rfl⟩
        · replace h := g_neg c4 h
          refine go_iconst (v := 0) (q := 24) dX2_tellWeight_23 (by decide) rfl ?_
          cases h
          exact go_iret dX2_tellWeight_24 rfl rfl (Nat.le_refl _) (Nat.le_refl _) ⟨rfl, rfl⟩
theorem t_X2_tellWeight (s : gS) (x1 : Int32) (x2 : Int32) (r : Int32 × gS) (h : f_X2_tellWeight s x1 x2 = some r) : Cal 1 mX2_tellWeight [.ref 5, .int x1, .int x2] (wW s) 0 0 (some (.int r.1)) (wW r.2) := Cal.of (by decide) (g_cats rfl) (Nat.le_of_ble_eq_true rfl) (b_X2_tellWeight r s x1 x2 h)
def f_X2_weightOf (s : gS) (x1 : Int32) : Option Int32 :=
  if x1 < 0 then
    some (-1 : Int32)
  else
    if 6 ≤ x1 then
      some (-1 : Int32)
    else
      if inB x1 6 = true then
        some (s.2 1 x1.toNatClampNeg)
      else none
set_option maxHeartbeats 4000000 in
set_option maxRecDepth 100000 in
theorem b_X2_weightOf (s : gS) (r : Int32) : ∀ (x1 : Int32) , f_X2_weightOf s x1 = some r → Go gTr yX2_weightOf cX2_weightOf 2 (some .int) 1 0 0 (fun r9 w9 => r9 = some (.int r) ∧ w9 = wW s) 0 0 (wW s) 0 [some (.ref 5), some (.int x1)] [] := by
  intro x1 h
  rw [f_X2_weightOf] at h
  refine go_iload_n (q := 1) dX2_weightOf_0 rfl rfl ?_
  refine go_if_lt (tgt := 22) (q := 4) dX2_weightOf_1 (by decide) rfl (fun c1 => ?_) (fun c1 => ?_)
  · replace h := g_pos c1 h
    refine go_iconst (v := (-1 : Int32)) (q := 23) dX2_weightOf_22 (by decide) rfl ?_
    cases h
    exact go_iret dX2_weightOf_23 rfl rfl (Nat.le_refl _) (Nat.le_refl _) ⟨rfl, rfl⟩
  · replace h := g_neg c1 h
    refine go_iload_n (q := 5) dX2_weightOf_4 rfl rfl ?_
    refine go_aload_n (q := 6) dX2_weightOf_5 rfl rfl ?_
    refine go_get (v := .ref 6) (q := 9) dX2_weightOf_6 fX2_27 (wg_5 _) rfl rfl ?_
    refine go_alen (v := 6) (q := 10) dX2_weightOf_9 (by decide) (wg_6 _) rfl rfl ?_
    refine go_icmp_ge (tgt := 22) (q := 13) dX2_weightOf_10 (by decide) rfl (fun c2 => ?_) (fun c2 => ?_)
    · replace h := g_pos c2 h
      refine go_iconst (v := (-1 : Int32)) (q := 23) dX2_weightOf_22 (by decide) rfl ?_
      cases h
      exact go_iret dX2_weightOf_23 rfl rfl (Nat.le_refl _) (Nat.le_refl _) ⟨rfl, rfl⟩
    · replace h := g_neg c2 h
      refine go_aload_n (q := 14) dX2_weightOf_13 rfl rfl ?_
      refine go_get (v := .ref 6) (q := 17) dX2_weightOf_14 fX2_27 (wg_5 _) rfl rfl ?_
      refine go_iload_n (q := 18) dX2_weightOf_17 rfl rfl ?_
      obtain ⟨g3, h⟩ := g_guard h
      refine go_iald (f := s.2 1) (q := 19) dX2_weightOf_18 (wg_6 _) (inB_in g3) rfl ?_
      refine go_goto (tgt := 23) dX2_weightOf_19 (by decide) ?_
      cases h
      exact go_iret dX2_weightOf_23 rfl rfl (Nat.le_refl _) (Nat.le_refl _) ⟨rfl, rfl⟩
theorem t_X2_weightOf (s : gS) (x1 : Int32) (r : Int32) (h : f_X2_weightOf s x1 = some r) : Cal 1 mX2_weightOf [.ref 5, .int x1] (wW s) 0 0 (some (.int r)) (wW s) := Cal.of (by decide) (g_cats rfl) (Nat.le_of_ble_eq_true rfl) (b_X2_weightOf s r x1 h)
def f_X2_forgetAll (s : gS) : Option gS :=
  some (ss (sf s 2 102 2) 10 0)
set_option maxHeartbeats 4000000 in
set_option maxRecDepth 100000 in
theorem b_X2_forgetAll (r : gS) : ∀ (s : gS) , f_X2_forgetAll s = some r → Go gTr yX2_forgetAll cX2_forgetAll 1 none 2 0 0 (fun r9 w9 => r9 = none ∧ w9 = wW r) 0 0 (wW s) 0 [some (.ref 5)] [] := by
  intro s h
  rw [f_X2_forgetAll] at h
  refine go_aload_n (q := 1) dX2_forgetAll_0 rfl rfl ?_
  refine go_get (v := .ref 7) (q := 4) dX2_forgetAll_1 fX2_31 (wg_5 _) rfl rfl ?_
  refine go_iconst (v := 2) (q := 5) dX2_forgetAll_4 (by decide) rfl ?_
  refine go_callS0 (q := 8) (as := [.ref 7, .int 2]) (rest := []) (st2 := []) (w2 := wW (sf s 2 102 2)) dX2_forgetAll_5 cX2_41 (fill_7 _ _) rfl rfl (Nat.le_of_ble_eq_true rfl) (by decide) ⟨Nat.le_refl _, Nat.le_refl _⟩ rfl rfl ?_
  refine go_aload_n (q := 9) dX2_forgetAll_8 rfl rfl ?_
  refine go_iconst (v := 0) (q := 10) dX2_forgetAll_9 (by decide) rfl ?_
  refine go_put (w2 := wW (ss (sf s 2 102 2) 10 0)) (q := 13) dX2_forgetAll_10 fX2_47 (wg_5 _) (Nat.le_of_ble_eq_true rfl) (fun _ => rfl) (fun _ => rfl) (wp_5_7 _ _) rfl ?_
  cases h
  exact go_ret dX2_forgetAll_13 rfl (Nat.le_refl _) (Nat.le_refl _) ⟨rfl, rfl⟩
theorem t_X2_forgetAll (s : gS) (r : gS) (h : f_X2_forgetAll s = some r) : Cal 2 mX2_forgetAll [.ref 5] (wW s) 0 0 none (wW r) := Cal.of (by decide) (g_cats rfl) (Nat.le_of_ble_eq_true rfl) (b_X2_forgetAll r s h)
def f_X2_forgetMove_35 (K2 : gS → Int32 → Int32 → Option gS) (s : gS) (x1 : Int32) (x2 : Int32) : Option gS :=
  K2 s x1 (x2 + 1)
set_option maxHeartbeats 4000000 in
set_option maxRecDepth 100000 in
theorem b_X2_forgetMove_35 (K2 : gS → Int32 → Int32 → Option gS) (r : gS) (hK2 : ∀ (s : gS) (x1 : Int32) (x2 : Int32) , K2 s x1 x2 = some r → Go gTr yX2_forgetMove cX2_forgetMove 4 none 1 0 0 (fun r9 w9 => r9 = none ∧ w9 = wW r) 0 0 (wW s) 2 [some (.ref 5), some (.int x1), some (.int x2), none] []) : ∀ (s : gS) (x1 : Int32) (x2 : Int32) , f_X2_forgetMove_35 K2 s x1 x2 = some r → Go gTr yX2_forgetMove cX2_forgetMove 4 none 1 0 0 (fun r9 w9 => r9 = none ∧ w9 = wW r) 0 0 (wW s) 35 [some (.ref 5), some (.int x1), some (.int x2), none] [] := by
  intro s x1 x2 h
  rw [f_X2_forgetMove_35] at h
  refine go_iinc (v := x2 + 1) (ls2 := [some (.ref 5), some (.int x1), some (.int (x2 + 1)), none]) (q := 38) dX2_forgetMove_35 (by decide) rfl rfl rfl rfl ?_
  refine go_goto (tgt := 2) dX2_forgetMove_38 (by decide) ?_
  refine go_ls (ls2 := [some (.ref 5), some (.int x1), some (.int (x2 + 1)), none]) ⟨rfl, rfl, rfl, trivial⟩ ?_
  exact hK2 s x1 (x2 + 1) h
def f_X2_forgetMove_2 : Nat → gS → Int32 → Int32 → Option gS
  | 0, _, _, _ => none
  | φ + 1, s, x1, x2 =>
    if 6 ≤ x2 then
      some (ss s 10 (if (x1 - 1) < (s.1 10) then (x1 - 1) else (s.1 10)))
    else
      if ((x1 * 6) + x2) < 0 then
        f_X2_forgetMove_35 (f_X2_forgetMove_2 φ) s x1 x2
      else
        if 102 ≤ ((x1 * 6) + x2) then
          f_X2_forgetMove_35 (f_X2_forgetMove_2 φ) s x1 x2
        else
          if inB ((x1 * 6) + x2) 102 = true then
            f_X2_forgetMove_35 (f_X2_forgetMove_2 φ) (sa s 2 (((x1 * 6) + x2).toNatClampNeg) 2) x1 x2
          else none
set_option maxHeartbeats 4000000 in
set_option maxRecDepth 100000 in
theorem b_X2_forgetMove_2 (r : gS) : ∀ (φ : Nat) (s : gS) (x1 : Int32) (x2 : Int32) , f_X2_forgetMove_2 φ s x1 x2 = some r → Go gTr yX2_forgetMove cX2_forgetMove 4 none 1 0 0 (fun r9 w9 => r9 = none ∧ w9 = wW r) 0 0 (wW s) 2 [some (.ref 5), some (.int x1), some (.int x2), none] [] := by
  intro φ
  induction φ with
  | zero =>
    intro s x1 x2 h
    exact absurd h (by intro h0; cases h0)
  | succ φ ih =>
    intro s x1 x2 h
    rw [f_X2_forgetMove_2] at h
    refine go_iload_n (q := 3) dX2_forgetMove_2 rfl rfl ?_
    refine go_bipush (v := 6) (q := 5) dX2_forgetMove_3 (by decide) rfl ?_
    refine go_icmp_ge (tgt := 41) (q := 8) dX2_forgetMove_5 (by decide) rfl (fun c1 => ?_) (fun c1 => ?_)
    · replace h := g_pos c1 h
      refine go_aload_n (q := 42) dX2_forgetMove_41 rfl rfl ?_
      refine go_aload_n (q := 43) dX2_forgetMove_42 rfl rfl ?_
      refine go_get (v := .int (s.1 10)) (q := 46) dX2_forgetMove_43 fX2_47 (wg_5 _) rfl rfl ?_
      refine go_iload_n (q := 47) dX2_forgetMove_46 rfl rfl ?_
      refine go_iconst (v := 1) (q := 48) dX2_forgetMove_47 (by decide) rfl ?_
      refine go_isub (q := 49) dX2_forgetMove_48 rfl ?_
      refine go_mmin (q := 52) dX2_forgetMove_49 cmX2_50 (by decide) (Nat.le_of_ble_eq_true rfl) ⟨Nat.le_refl _, Nat.le_refl _⟩ rfl ?_
      refine go_put (w2 := wW (ss s 10 (if (x1 - 1) < (s.1 10) then (x1 - 1) else (s.1 10)))) (q := 55) dX2_forgetMove_52 fX2_47 (wg_5 _) (Nat.le_of_ble_eq_true rfl) (fun _ => rfl) (fun _ => rfl) (wp_5_7 _ _) rfl ?_
      cases h
      exact go_ret dX2_forgetMove_55 rfl (Nat.le_refl _) (Nat.le_refl _) ⟨rfl, rfl⟩
    · replace h := g_neg c1 h
      refine go_iload_n (q := 9) dX2_forgetMove_8 rfl rfl ?_
      refine go_bipush (v := 6) (q := 11) dX2_forgetMove_9 (by decide) rfl ?_
      refine go_imul (q := 12) dX2_forgetMove_11 rfl ?_
      refine go_iload_n (q := 13) dX2_forgetMove_12 rfl rfl ?_
      refine go_iadd (q := 14) dX2_forgetMove_13 rfl ?_
      refine go_istore_n (ls2 := [some (.ref 5), some (.int x1), some (.int x2), some (.int ((x1 * 6) + x2))]) (q := 15) dX2_forgetMove_14 (by decide) rfl rfl ?_
      refine go_iload_n (q := 16) dX2_forgetMove_15 rfl rfl ?_
      refine go_if_lt (tgt := 35) (q := 19) dX2_forgetMove_16 (by decide) rfl (fun c2 => ?_) (fun c2 => ?_)
      · replace h := g_pos c2 h
        refine go_ls (ls2 := [some (.ref 5), some (.int x1), some (.int x2), none]) ⟨rfl, rfl, rfl, trivial⟩ ?_
        exact b_X2_forgetMove_35 (f_X2_forgetMove_2 φ) r (fun s x1 x2 h => ih s x1 x2 h) s x1 x2 h
      · replace h := g_neg c2 h
        refine go_iload_n (q := 20) dX2_forgetMove_19 rfl rfl ?_
        refine go_aload_n (q := 21) dX2_forgetMove_20 rfl rfl ?_
        refine go_get (v := .ref 7) (q := 24) dX2_forgetMove_21 fX2_31 (wg_5 _) rfl rfl ?_
        refine go_alen (v := 102) (q := 25) dX2_forgetMove_24 (by decide) (wg_7 _) rfl rfl ?_
        refine go_icmp_ge (tgt := 35) (q := 28) dX2_forgetMove_25 (by decide) rfl (fun c3 => ?_) (fun c3 => ?_)
        · replace h := g_pos c3 h
          refine go_ls (ls2 := [some (.ref 5), some (.int x1), some (.int x2), none]) ⟨rfl, rfl, rfl, trivial⟩ ?_
          exact b_X2_forgetMove_35 (f_X2_forgetMove_2 φ) r (fun s x1 x2 h => ih s x1 x2 h) s x1 x2 h
        · replace h := g_neg c3 h
          refine go_aload_n (q := 29) dX2_forgetMove_28 rfl rfl ?_
          refine go_get (v := .ref 7) (q := 32) dX2_forgetMove_29 fX2_31 (wg_5 _) rfl rfl ?_
          refine go_iload_n (q := 33) dX2_forgetMove_32 rfl rfl ?_
          refine go_iconst (v := 2) (q := 34) dX2_forgetMove_33 (by decide) rfl ?_
          obtain ⟨g4, h⟩ := g_guard h
          refine go_iast (w2 := wW (sa s 2 (((x1 * 6) + x2).toNatClampNeg) 2)) (q := 35) dX2_forgetMove_34 (wg_7 _) (inB_in g4) (wa_7 _ _ _) rfl ?_
          refine go_ls (ls2 := [some (.ref 5), some (.int x1), some (.int x2), none]) ⟨rfl, rfl, rfl, trivial⟩ ?_
          exact b_X2_forgetMove_35 (f_X2_forgetMove_2 φ) r (fun s x1 x2 h => ih s x1 x2 h) (sa s 2 (((x1 * 6) + x2).toNatClampNeg) 2) x1 x2 h
def f_X2_forgetMove (s : gS) (x1 : Int32) : Option gS :=
  f_X2_forgetMove_2 gφ s x1 0
set_option maxHeartbeats 4000000 in
set_option maxRecDepth 100000 in
theorem b_X2_forgetMove (r : gS) : ∀ (s : gS) (x1 : Int32) , f_X2_forgetMove s x1 = some r → Go gTr yX2_forgetMove cX2_forgetMove 4 none 1 0 0 (fun r9 w9 => r9 = none ∧ w9 = wW r) 0 0 (wW s) 0 [some (.ref 5), some (.int x1), none, none] [] := by
  intro s x1 h
  rw [f_X2_forgetMove] at h
  refine go_iconst (v := 0) (q := 1) dX2_forgetMove_0 (by decide) rfl ?_
  refine go_istore_n (ls2 := [some (.ref 5), some (.int x1), some (.int 0), none]) (q := 2) dX2_forgetMove_1 (by decide) rfl rfl ?_
  refine go_ls (ls2 := [some (.ref 5), some (.int x1), some (.int 0), none]) ⟨rfl, rfl, rfl, trivial⟩ ?_
  exact b_X2_forgetMove_2 r gφ s x1 0 h
theorem t_X2_forgetMove (s : gS) (x1 : Int32) (r : gS) (h : f_X2_forgetMove s x1 = some r) : Cal 1 mX2_forgetMove [.ref 5, .int x1] (wW s) 0 0 none (wW r) := Cal.of (by decide) (g_cats rfl) (Nat.le_of_ble_eq_true rfl) (b_X2_forgetMove r s x1 h)
def f_X5_valueFor (s : gS) (x1 : Int32) (x2 : Int32) (x3 : Int32) : Option Int32 :=
  (f_X5_reaches_top 8 s x1 x2 x3 0).bind fun r1 =>
  if r1 = 0 then
    some (-1 : Int32)
  else
    (f_X5_reaches_top 8 s x1 x2 x3 1).bind fun r4 =>
    if r4 = 0 then
      some 0
    else
      some 1
set_option maxHeartbeats 4000000 in
set_option maxRecDepth 100000 in
theorem b_X5_valueFor (s : gS) (r : Int32) : ∀ (x1 : Int32) (x2 : Int32) (x3 : Int32) , f_X5_valueFor s x1 x2 x3 = some r → Go gTr yX5_valueFor cX5_valueFor 4 (some .int) 10 0 0 (fun r9 w9 => r9 = some (.int r) ∧ w9 = wW s) 0 0 (wW s) 0 [some (.ref 4), some (.int x1), some (.int x2), some (.int x3)] [] := by
  intro x1 x2 x3 h
  rw [f_X5_valueFor] at h
  refine go_aload_n (q := 1) dX5_valueFor_0 rfl rfl ?_
  refine go_iload_n (q := 2) dX5_valueFor_1 rfl rfl ?_
  refine go_iload_n (q := 3) dX5_valueFor_2 rfl rfl ?_
  refine go_iload_n (q := 4) dX5_valueFor_3 rfl rfl ?_
  refine go_iconst (v := 0) (q := 5) dX5_valueFor_4 (by decide) rfl ?_
  obtain ⟨r1, e2, h⟩ := g_bind h
  refine go_callV0 (q := 8) (as := [.int x1, .int x2, .int x3, .int 0]) (rest := []) (st2 := [.int r1]) (w2 := wW s) dX5_valueFor_5 cX5_23 (t_X5_reaches 8 s x1 x2 x3 0 _ e2) (wg_4 _) rfl rfl rfl (Nat.le_of_ble_eq_true rfl) (by decide) ⟨Nat.le_refl _, Nat.le_refl _⟩ rfl rfl ?_
  refine go_if_ne (tgt := 13) (q := 11) dX5_valueFor_8 (by decide) rfl (fun c3 => ?_) (fun c3 => ?_)
  · replace h := g_neg c3 h
    refine go_aload_n (q := 14) dX5_valueFor_13 rfl rfl ?_
    refine go_iload_n (q := 15) dX5_valueFor_14 rfl rfl ?_
    refine go_iload_n (q := 16) dX5_valueFor_15 rfl rfl ?_
    refine go_iload_n (q := 17) dX5_valueFor_16 rfl rfl ?_
    refine go_iconst (v := 1) (q := 18) dX5_valueFor_17 (by decide) rfl ?_
    obtain ⟨r4, e5, h⟩ := g_bind h
    refine go_callV0 (q := 21) (as := [.int x1, .int x2, .int x3, .int 1]) (rest := []) (st2 := [.int r4]) (w2 := wW s) dX5_valueFor_18 cX5_23 (t_X5_reaches 8 s x1 x2 x3 1 _ e5) (wg_4 _) rfl rfl rfl (Nat.le_of_ble_eq_true rfl) (by decide) ⟨Nat.le_refl _, Nat.le_refl _⟩ rfl rfl ?_
    refine go_if_eq (tgt := 28) (q := 24) dX5_valueFor_21 (by decide) rfl (fun c6 => ?_) (fun c6 => ?_)
    · replace h := g_pos c6 h
      refine go_iconst (v := 0) (q := 29) dX5_valueFor_28 (by decide) rfl ?_
      cases h
      exact go_iret dX5_valueFor_29 rfl rfl (Nat.le_refl _) (Nat.le_refl _) ⟨rfl, rfl⟩
    · replace h := g_neg c6 h
      refine go_iconst (v := 1) (q := 25) dX5_valueFor_24 (by decide) rfl ?_
      refine go_goto (tgt := 29) dX5_valueFor_25 (by decide) ?_
      cases h
      exact go_iret dX5_valueFor_29 rfl rfl (Nat.le_refl _) (Nat.le_refl _) ⟨rfl, rfl⟩
  · replace h := g_pos c3 h
    refine go_iconst (v := (-1 : Int32)) (q := 12) dX5_valueFor_11 (by decide) rfl ?_
    cases h
    exact go_iret dX5_valueFor_12 rfl rfl (Nat.le_refl _) (Nat.le_refl _) ⟨rfl, rfl⟩
theorem t_X5_valueFor (s : gS) (x1 : Int32) (x2 : Int32) (x3 : Int32) (r : Int32) (h : f_X5_valueFor s x1 x2 x3 = some r) : Cal 10 mX5_valueFor [.ref 4, .int x1, .int x2, .int x3] (wW s) 0 0 (some (.int r)) (wW s) := Cal.of (by decide) (g_cats rfl) (Nat.le_of_ble_eq_true rfl) (b_X5_valueFor s r x1 x2 x3 h)
def f_X2_valueBehind_111 (s : gS) (x3 : Int32) : Option (Int32 × gS) :=
  if inB x3 102 = true then
    some (s.2 2 x3.toNatClampNeg, s)
  else none
set_option maxHeartbeats 4000000 in
set_option maxRecDepth 100000 in
theorem b_X2_valueBehind_111 (r : Int32 × gS) : ∀ (s : gS) (x3 : Int32) , f_X2_valueBehind_111 s x3 = some r → Go gTr yX2_valueBehind cX2_valueBehind 7 (some .int) 11 0 0 (fun r9 w9 => r9 = some (.int r.1) ∧ w9 = wW r.2) 0 0 (wW s) 111 [some (.ref 5), none, none, some (.int x3), none, none, none] [] := by
  intro s x3 h
  rw [f_X2_valueBehind_111] at h
  refine go_aload_n (q := 112) dX2_valueBehind_111 rfl rfl ?_
  refine go_get (v := .ref 7) (q := 115) dX2_valueBehind_112 fX2_31 (wg_5 _) rfl rfl ?_
  refine go_iload_n (q := 116) dX2_valueBehind_115 rfl rfl ?_
  obtain ⟨g1, h⟩ := g_guard h
  refine go_iald (f := s.2 2) (q := 117) dX2_valueBehind_116 (wg_7 _) (inB_in g1) rfl ?_
  cases h
  exact go_iret dX2_valueBehind_117 rfl rfl (Nat.le_refl _) (Nat.le_refl _) ⟨rfl, rfl⟩
def f_X2_valueBehind (s : gS) (x1 : Int32) (x2 : Int32) : Option (Int32 × gS) :=
  (f_X3_hasEndedBehind s x1).bind fun r1 =>
  if r1 = 0 then
    if x2 < 1 then
      some (0, s)
    else
      if 6 ≤ x2 then
        some (0, s)
      else
        if ((x1 * 6) + x2) < 0 then
          some (0, s)
        else
          if ((x1 * 6) + x2) < 102 then
            if inB ((x1 * 6) + x2) 102 = true then
              if (s.2 2 ((x1 * 6) + x2).toNatClampNeg) = 2 then
                (f_X3_stonesOf s (x1 &&& 1) x1).bind fun r10 =>
                (f_X3_stonesOf s (1 - (x1 &&& 1)) x1).bind fun r12 =>
                (f_X5_valueFor s r10 r12 x2).bind fun r14 =>
                if inB ((x1 * 6) + x2) 102 = true then
                  f_X2_valueBehind_111 (sa s 2 (((x1 * 6) + x2).toNatClampNeg) r14) ((x1 * 6) + x2)
                else none
              else
                f_X2_valueBehind_111 s ((x1 * 6) + x2)
            else none
          else
            some (0, s)
  else
    (f_X3_endValue s).bind fun r17 =>
    some (r17, s)
set_option maxHeartbeats 4000000 in
set_option maxRecDepth 100000 in
theorem b_X2_valueBehind (r : Int32 × gS) : ∀ (s : gS) (x1 : Int32) (x2 : Int32) , f_X2_valueBehind s x1 x2 = some r → Go gTr yX2_valueBehind cX2_valueBehind 7 (some .int) 11 0 0 (fun r9 w9 => r9 = some (.int r.1) ∧ w9 = wW r.2) 0 0 (wW s) 0 [some (.ref 5), some (.int x1), some (.int x2), none, none, none, none] [] := by
  intro s x1 x2 h
  rw [f_X2_valueBehind] at h
  refine go_aload_n (q := 1) dX2_valueBehind_0 rfl rfl ?_
  refine go_get (v := .ref 2) (q := 4) dX2_valueBehind_1 fX2_19 (wg_5 _) rfl rfl ?_
  refine go_iload_n (q := 5) dX2_valueBehind_4 rfl rfl ?_
  obtain ⟨r1, e2, h⟩ := g_bind h
  refine go_callV0 (q := 8) (as := [.int x1]) (rest := []) (st2 := [.int r1]) (w2 := wW s) dX2_valueBehind_5 cX2_56 (t_X3_hasEndedBehind s x1 _ e2) (wg_2 _) rfl rfl rfl (Nat.le_of_ble_eq_true rfl) (by decide) ⟨Nat.le_refl _, Nat.le_refl _⟩ rfl rfl ?_
  refine go_if_eq (tgt := 19) (q := 11) dX2_valueBehind_8 (by decide) rfl (fun c3 => ?_) (fun c3 => ?_)
  · replace h := g_pos c3 h
    refine go_iload_n (q := 20) dX2_valueBehind_19 rfl rfl ?_
    refine go_bipush (v := 6) (q := 22) dX2_valueBehind_20 (by decide) rfl ?_
    refine go_imul (q := 23) dX2_valueBehind_22 rfl ?_
    refine go_iload_n (q := 24) dX2_valueBehind_23 rfl rfl ?_
    refine go_iadd (q := 25) dX2_valueBehind_24 rfl ?_
    refine go_istore_n (ls2 := [some (.ref 5), some (.int x1), some (.int x2), some (.int ((x1 * 6) + x2)), none, none, none]) (q := 26) dX2_valueBehind_25 (by decide) rfl rfl ?_
    refine go_iload_n (q := 27) dX2_valueBehind_26 rfl rfl ?_
    refine go_iconst (v := 1) (q := 28) dX2_valueBehind_27 (by decide) rfl ?_
    refine go_icmp_lt (tgt := 50) (q := 31) dX2_valueBehind_28 (by decide) rfl (fun c4 => ?_) (fun c4 => ?_)
    · replace h := g_pos c4 h
      refine go_iconst (v := 0) (q := 51) dX2_valueBehind_50 (by decide) rfl ?_
      cases h
      exact go_iret dX2_valueBehind_51 rfl rfl (Nat.le_refl _) (Nat.le_refl _) ⟨rfl, rfl⟩
    · replace h := g_neg c4 h
      refine go_iload_n (q := 32) dX2_valueBehind_31 rfl rfl ?_
      refine go_bipush (v := 6) (q := 34) dX2_valueBehind_32 (by decide) rfl ?_
      refine go_icmp_ge (tgt := 50) (q := 37) dX2_valueBehind_34 (by decide) rfl (fun c5 => ?_) (fun c5 => ?_)
      · replace h := g_pos c5 h
        refine go_iconst (v := 0) (q := 51) dX2_valueBehind_50 (by decide) rfl ?_
        cases h
        exact go_iret dX2_valueBehind_51 rfl rfl (Nat.le_refl _) (Nat.le_refl _) ⟨rfl, rfl⟩
      · replace h := g_neg c5 h
        refine go_iload_n (q := 38) dX2_valueBehind_37 rfl rfl ?_
        refine go_if_lt (tgt := 50) (q := 41) dX2_valueBehind_38 (by decide) rfl (fun c6 => ?_) (fun c6 => ?_)
        · replace h := g_pos c6 h
          refine go_iconst (v := 0) (q := 51) dX2_valueBehind_50 (by decide) rfl ?_
          cases h
          exact go_iret dX2_valueBehind_51 rfl rfl (Nat.le_refl _) (Nat.le_refl _) ⟨rfl, rfl⟩
        · replace h := g_neg c6 h
          refine go_iload_n (q := 42) dX2_valueBehind_41 rfl rfl ?_
          refine go_aload_n (q := 43) dX2_valueBehind_42 rfl rfl ?_
          refine go_get (v := .ref 7) (q := 46) dX2_valueBehind_43 fX2_31 (wg_5 _) rfl rfl ?_
          refine go_alen (v := 102) (q := 47) dX2_valueBehind_46 (by decide) (wg_7 _) rfl rfl ?_
          refine go_icmp_lt (tgt := 52) (q := 50) dX2_valueBehind_47 (by decide) rfl (fun c7 => ?_) (fun c7 => ?_)
          · replace h := g_pos c7 h
            refine go_aload_n (q := 53) dX2_valueBehind_52 rfl rfl ?_
            refine go_get (v := .ref 7) (q := 56) dX2_valueBehind_53 fX2_31 (wg_5 _) rfl rfl ?_
            refine go_iload_n (q := 57) dX2_valueBehind_56 rfl rfl ?_
            obtain ⟨g8, h⟩ := g_guard h
            refine go_iald (f := s.2 2) (q := 58) dX2_valueBehind_57 (wg_7 _) (inB_in g8) rfl ?_
            refine go_iconst (v := 2) (q := 59) dX2_valueBehind_58 (by decide) rfl ?_
            refine go_icmp_ne (tgt := 111) (q := 62) dX2_valueBehind_59 (by decide) rfl (fun c9 => ?_) (fun c9 => ?_)
            · replace h := g_neg c9 h
              refine go_ls (ls2 := [some (.ref 5), none, none, some (.int ((x1 * 6) + x2)), none, none, none]) ⟨rfl, rfl, trivial⟩ ?_
              exact b_X2_valueBehind_111 r s ((x1 * 6) + x2) h
            · replace h := g_pos c9 h
              refine go_iload_n (q := 63) dX2_valueBehind_62 rfl rfl ?_
              refine go_iconst (v := 1) (q := 64) dX2_valueBehind_63 (by decide) rfl ?_
              refine go_iand (q := 65) dX2_valueBehind_64 rfl ?_
              refine go_istore (ls2 := [some (.ref 5), some (.int x1), some (.int x2), some (.int ((x1 * 6) + x2)), some (.int (x1 &&& 1)), none, none]) (q := 67) dX2_valueBehind_65 (by decide) rfl rfl ?_
              refine go_aload_n (q := 68) dX2_valueBehind_67 rfl rfl ?_
              refine go_get (v := .ref 2) (q := 71) dX2_valueBehind_68 fX2_19 (wg_5 _) rfl rfl ?_
              refine go_iload (q := 73) dX2_valueBehind_71 rfl rfl ?_
              refine go_iload_n (q := 74) dX2_valueBehind_73 rfl rfl ?_
              obtain ⟨r10, e11, h⟩ := g_bind h
              refine go_callV0 (q := 77) (as := [.int (x1 &&& 1), .int x1]) (rest := []) (st2 := [.int r10]) (w2 := wW s) dX2_valueBehind_74 cX2_66 (t_X3_stonesOf s (x1 &&& 1) x1 _ e11) (wg_2 _) rfl rfl rfl (Nat.le_of_ble_eq_true rfl) (by decide) ⟨Nat.le_refl _, Nat.le_refl _⟩ rfl rfl ?_
              refine go_istore (ls2 := [some (.ref 5), some (.int x1), some (.int x2), some (.int ((x1 * 6) + x2)), some (.int (x1 &&& 1)), some (.int r10), none]) (q := 79) dX2_valueBehind_77 (by decide) rfl rfl ?_
              refine go_aload_n (q := 80) dX2_valueBehind_79 rfl rfl ?_
              refine go_get (v := .ref 2) (q := 83) dX2_valueBehind_80 fX2_19 (wg_5 _) rfl rfl ?_
              refine go_iconst (v := 1) (q := 84) dX2_valueBehind_83 (by decide) rfl ?_
              refine go_iload (q := 86) dX2_valueBehind_84 rfl rfl ?_
              refine go_isub (q := 87) dX2_valueBehind_86 rfl ?_
              refine go_iload_n (q := 88) dX2_valueBehind_87 rfl rfl ?_
              obtain ⟨r12, e13, h⟩ := g_bind h
              refine go_callV0 (q := 91) (as := [.int (1 - (x1 &&& 1)), .int x1]) (rest := []) (st2 := [.int r12]) (w2 := wW s) dX2_valueBehind_88 cX2_66 (t_X3_stonesOf s (1 - (x1 &&& 1)) x1 _ e13) (wg_2 _) rfl rfl rfl (Nat.le_of_ble_eq_true rfl) (by decide) ⟨Nat.le_refl _, Nat.le_refl _⟩ rfl rfl ?_
              refine go_istore (ls2 := [some (.ref 5), some (.int x1), some (.int x2), some (.int ((x1 * 6) + x2)), some (.int (x1 &&& 1)), some (.int r10), some (.int r12)]) (q := 93) dX2_valueBehind_91 (by decide) rfl rfl ?_
              refine go_aload_n (q := 94) dX2_valueBehind_93 rfl rfl ?_
              refine go_get (v := .ref 7) (q := 97) dX2_valueBehind_94 fX2_31 (wg_5 _) rfl rfl ?_
              refine go_iload_n (q := 98) dX2_valueBehind_97 rfl rfl ?_
              refine go_aload_n (q := 99) dX2_valueBehind_98 rfl rfl ?_
              refine go_get (v := .ref 4) (q := 102) dX2_valueBehind_99 fX2_23 (wg_5 _) rfl rfl ?_
              refine go_iload (q := 104) dX2_valueBehind_102 rfl rfl ?_
              refine go_iload (q := 106) dX2_valueBehind_104 rfl rfl ?_
              refine go_iload_n (q := 107) dX2_valueBehind_106 rfl rfl ?_
              obtain ⟨r14, e15, h⟩ := g_bind h
              refine go_callV0 (q := 110) (as := [.int r10, .int r12, .int x2]) (rest := [.int ((x1 * 6) + x2), .ref 7]) (st2 := [.int r14, .int ((x1 * 6) + x2), .ref 7]) (w2 := wW s) dX2_valueBehind_107 cX2_69 (t_X5_valueFor s r10 r12 x2 _ e15) (wg_4 _) rfl rfl rfl (Nat.le_of_ble_eq_true rfl) (by decide) ⟨Nat.le_refl _, Nat.le_refl _⟩ rfl rfl ?_
              obtain ⟨g16, h⟩ := g_guard h
              refine go_iast (w2 := wW (sa s 2 (((x1 * 6) + x2).toNatClampNeg) r14)) (q := 111) dX2_valueBehind_110 (wg_7 _) (inB_in g16) (wa_7 _ _ _) rfl ?_
              refine go_ls (ls2 := [some (.ref 5), none, none, some (.int ((x1 * 6) + x2)), none, none, none]) ⟨rfl, rfl, trivial⟩ ?_
              exact b_X2_valueBehind_111 r (sa s 2 (((x1 * 6) + x2).toNatClampNeg) r14) ((x1 * 6) + x2) h
          · replace h := g_neg c7 h
            refine go_iconst (v := 0) (q := 51) dX2_valueBehind_50 (by decide) rfl ?_
            cases h
            exact go_iret dX2_valueBehind_51 rfl rfl (Nat.le_refl _) (Nat.le_refl _) ⟨rfl, rfl⟩
  · replace h := g_neg c3 h
    refine go_aload_n (q := 12) dX2_valueBehind_11 rfl rfl ?_
    refine go_get (v := .ref 2) (q := 15) dX2_valueBehind_12 fX2_19 (wg_5 _) rfl rfl ?_
    obtain ⟨r17, e18, h⟩ := g_bind h
    refine go_callV0 (q := 18) (as := []) (rest := []) (st2 := [.int r17]) (w2 := wW s) dX2_valueBehind_15 cX2_62 (t_X3_endValue s _ e18) (wg_2 _) rfl rfl rfl (Nat.le_of_ble_eq_true rfl) (by decide) ⟨Nat.le_refl _, Nat.le_refl _⟩ rfl rfl ?_
    cases h
    exact go_iret dX2_valueBehind_18 rfl rfl (Nat.le_refl _) (Nat.le_refl _) ⟨rfl, rfl⟩
theorem t_X2_valueBehind (s : gS) (x1 : Int32) (x2 : Int32) (r : Int32 × gS) (h : f_X2_valueBehind s x1 x2 = some r) : Cal 11 mX2_valueBehind [.ref 5, .int x1, .int x2] (wW s) 0 0 (some (.int r.1)) (wW r.2) := Cal.of (by decide) (g_cats rfl) (Nat.le_of_ble_eq_true rfl) (b_X2_valueBehind r s x1 x2 h)
def f_X2_leaderBehind (s : gS) (x1 : Int32) : Option (Int32 × gS) :=
  (f_X2_valueBehind s x1 (s.1 9)).bind fun r1 =>
  if r1.1 = 0 then
    some (2, r1.2)
  else
    if r1.1 ≤ 0 then
      some (1 - (x1 &&& 1), r1.2)
    else
      some (x1 &&& 1, r1.2)
set_option maxHeartbeats 4000000 in
set_option maxRecDepth 100000 in
theorem b_X2_leaderBehind (r : Int32 × gS) : ∀ (s : gS) (x1 : Int32) , f_X2_leaderBehind s x1 = some r → Go gTr yX2_leaderBehind cX2_leaderBehind 3 (some .int) 12 0 0 (fun r9 w9 => r9 = some (.int r.1) ∧ w9 = wW r.2) 0 0 (wW s) 0 [some (.ref 5), some (.int x1), none] [] := by
  intro s x1 h
  rw [f_X2_leaderBehind] at h
  refine go_aload_n (q := 1) dX2_leaderBehind_0 rfl rfl ?_
  refine go_iload_n (q := 2) dX2_leaderBehind_1 rfl rfl ?_
  refine go_aload_n (q := 3) dX2_leaderBehind_2 rfl rfl ?_
  refine go_get (v := .int (s.1 9)) (q := 6) dX2_leaderBehind_3 fX2_37 (wg_5 _) rfl rfl ?_
  obtain ⟨r1, e2, h⟩ := g_bind h
  refine go_callV0 (q := 9) (as := [.int x1, .int (s.1 9)]) (rest := []) (st2 := [.int r1.1]) (w2 := wW r1.2) dX2_leaderBehind_6 cX2_73 (t_X2_valueBehind s x1 (s.1 9) _ e2) (wg_5 _) rfl rfl rfl (Nat.le_of_ble_eq_true rfl) (by decide) ⟨Nat.le_refl _, Nat.le_refl _⟩ rfl rfl ?_
  refine go_istore_n (ls2 := [some (.ref 5), some (.int x1), some (.int r1.1)]) (q := 10) dX2_leaderBehind_9 (by decide) rfl rfl ?_
  refine go_iload_n (q := 11) dX2_leaderBehind_10 rfl rfl ?_
  refine go_if_ne (tgt := 16) (q := 14) dX2_leaderBehind_11 (by decide) rfl (fun c3 => ?_) (fun c3 => ?_)
  · replace h := g_neg c3 h
    refine go_iload_n (q := 17) dX2_leaderBehind_16 rfl rfl ?_
    refine go_if_le (tgt := 26) (q := 20) dX2_leaderBehind_17 (by decide) rfl (fun c4 => ?_) (fun c4 => ?_)
    · replace h := g_pos c4 h
      refine go_iconst (v := 1) (q := 27) dX2_leaderBehind_26 (by decide) rfl ?_
      refine go_iload_n (q := 28) dX2_leaderBehind_27 rfl rfl ?_
      refine go_iconst (v := 1) (q := 29) dX2_leaderBehind_28 (by decide) rfl ?_
      refine go_iand (q := 30) dX2_leaderBehind_29 rfl ?_
      refine go_isub (q := 31) dX2_leaderBehind_30 rfl ?_
      cases h
      exact go_iret dX2_leaderBehind_31 rfl rfl (Nat.le_refl _) (Nat.le_refl _) ⟨rfl, rfl⟩
    · replace h := g_neg c4 h
      refine go_iload_n (q := 21) dX2_leaderBehind_20 rfl rfl ?_
      refine go_iconst (v := 1) (q := 22) dX2_leaderBehind_21 (by decide) rfl ?_
      refine go_iand (q := 23) dX2_leaderBehind_22 rfl ?_
      refine go_goto (tgt := 31) dX2_leaderBehind_23 (by decide) ?_
      cases h
      exact go_iret dX2_leaderBehind_31 rfl rfl (Nat.le_refl _) (Nat.le_refl _) ⟨rfl, rfl⟩
  · replace h := g_pos c3 h
    refine go_iconst (v := 2) (q := 15) dX2_leaderBehind_14 (by decide) rfl ?_
    cases h
    exact go_iret dX2_leaderBehind_15 rfl rfl (Nat.le_refl _) (Nat.le_refl _) ⟨rfl, rfl⟩
theorem t_X2_leaderBehind (s : gS) (x1 : Int32) (r : Int32 × gS) (h : f_X2_leaderBehind s x1 = some r) : Cal 12 mX2_leaderBehind [.ref 5, .int x1] (wW s) 0 0 (some (.int r.1)) (wW r.2) := Cal.of (by decide) (g_cats rfl) (Nat.le_of_ble_eq_true rfl) (b_X2_leaderBehind r s x1 h)
def f_X2_makerOf (x0 : Int32) : Option Int32 :=
  some (1 - (x0 &&& 1))
set_option maxHeartbeats 4000000 in
set_option maxRecDepth 100000 in
theorem b_X2_makerOf (w : List va_E) (r : Int32) : ∀ (x0 : Int32) , f_X2_makerOf x0 = some r → Go gTr yX2_makerOf cX2_makerOf 1 (some .int) 1 0 0 (fun r9 w9 => r9 = some (.int r) ∧ w9 = w) 0 0 w 0 [some (.int x0)] [] := by
  intro x0 h
  rw [f_X2_makerOf] at h
  refine go_iconst (v := 1) (q := 1) dX2_makerOf_0 (by decide) rfl ?_
  refine go_iload_n (q := 2) dX2_makerOf_1 rfl rfl ?_
  refine go_iconst (v := 1) (q := 3) dX2_makerOf_2 (by decide) rfl ?_
  refine go_iand (q := 4) dX2_makerOf_3 rfl ?_
  refine go_isub (q := 5) dX2_makerOf_4 rfl ?_
  cases h
  exact go_iret dX2_makerOf_5 rfl rfl (Nat.le_refl _) (Nat.le_refl _) ⟨rfl, rfl⟩
theorem t_X2_makerOf (w : List va_E) (x0 : Int32) (r : Int32) (h : f_X2_makerOf x0 = some r) : Cal 1 mX2_makerOf [.int x0] w 0 0 (some (.int r)) w := Cal.of (by decide) (g_cats rfl) (Nat.le_of_ble_eq_true rfl) (b_X2_makerOf w r x0 h)
def f_X2_winOf (s : gS) (x1 : Int32) : Option Int32 :=
  (f_X3_hasEndedBehind s x1).bind fun r1 =>
  if r1 = 0 then
    some 0
  else
    (f_X2_makerOf x1).bind fun r4 =>
    if (s.1 8) = (r4 + 1) then
      some 1
    else
      some 0
set_option maxHeartbeats 4000000 in
set_option maxRecDepth 100000 in
theorem b_X2_winOf (s : gS) (r : Int32) : ∀ (x1 : Int32) , f_X2_winOf s x1 = some r → Go gTr yX2_winOf cX2_winOf 2 (some .int) 2 0 0 (fun r9 w9 => r9 = some (.int r) ∧ w9 = wW s) 0 0 (wW s) 0 [some (.ref 5), some (.int x1)] [] := by
  intro x1 h
  rw [f_X2_winOf] at h
  refine go_aload_n (q := 1) dX2_winOf_0 rfl rfl ?_
  refine go_get (v := .ref 2) (q := 4) dX2_winOf_1 fX2_19 (wg_5 _) rfl rfl ?_
  refine go_iload_n (q := 5) dX2_winOf_4 rfl rfl ?_
  obtain ⟨r1, e2, h⟩ := g_bind h
  refine go_callV0 (q := 8) (as := [.int x1]) (rest := []) (st2 := [.int r1]) (w2 := wW s) dX2_winOf_5 cX2_56 (t_X3_hasEndedBehind s x1 _ e2) (wg_2 _) rfl rfl rfl (Nat.le_of_ble_eq_true rfl) (by decide) ⟨Nat.le_refl _, Nat.le_refl _⟩ rfl rfl ?_
  refine go_if_eq (tgt := 31) (q := 11) dX2_winOf_8 (by decide) rfl (fun c3 => ?_) (fun c3 => ?_)
  · replace h := g_pos c3 h
    refine go_iconst (v := 0) (q := 32) dX2_winOf_31 (by decide) rfl ?_
    cases h
    exact go_iret dX2_winOf_32 rfl rfl (Nat.le_refl _) (Nat.le_refl _) ⟨rfl, rfl⟩
  · replace h := g_neg c3 h
    refine go_aload_n (q := 12) dX2_winOf_11 rfl rfl ?_
    refine go_get (v := .ref 2) (q := 15) dX2_winOf_12 fX2_19 (wg_5 _) rfl rfl ?_
    refine go_get (v := .int (s.1 8)) (q := 18) dX2_winOf_15 fX2_107 (wg_2 _) rfl rfl ?_
    refine go_iload_n (q := 19) dX2_winOf_18 rfl rfl ?_
    obtain ⟨r4, e5, h⟩ := g_bind h
    refine go_callS0 (q := 22) (as := [.int x1]) (rest := [.int (s.1 8)]) (st2 := [.int r4, .int (s.1 8)]) (w2 := wW s) dX2_winOf_19 cX2_110 (t_X2_makerOf _ x1 _ e5) rfl rfl (Nat.le_of_ble_eq_true rfl) (by decide) ⟨Nat.le_refl _, Nat.le_refl _⟩ rfl rfl ?_
    refine go_iconst (v := 1) (q := 23) dX2_winOf_22 (by decide) rfl ?_
    refine go_iadd (q := 24) dX2_winOf_23 rfl ?_
    refine go_icmp_ne (tgt := 31) (q := 27) dX2_winOf_24 (by decide) rfl (fun c6 => ?_) (fun c6 => ?_)
    · replace h := g_neg c6 h
      refine go_iconst (v := 0) (q := 32) dX2_winOf_31 (by decide) rfl ?_
      cases h
      exact go_iret dX2_winOf_32 rfl rfl (Nat.le_refl _) (Nat.le_refl _) ⟨rfl, rfl⟩
    · replace h := g_pos c6 h
      refine go_iconst (v := 1) (q := 28) dX2_winOf_27 (by decide) rfl ?_
      refine go_goto (tgt := 32) dX2_winOf_28 (by decide) ?_
      cases h
      exact go_iret dX2_winOf_32 rfl rfl (Nat.le_refl _) (Nat.le_refl _) ⟨rfl, rfl⟩
theorem t_X2_winOf (s : gS) (x1 : Int32) (r : Int32) (h : f_X2_winOf s x1 = some r) : Cal 2 mX2_winOf [.ref 5, .int x1] (wW s) 0 0 (some (.int r)) (wW s) := Cal.of (by decide) (g_cats rfl) (Nat.le_of_ble_eq_true rfl) (b_X2_winOf s r x1 h)
def f_X2_keep (s : gS) (x1 : Int32) (x2 : Int32) (x3 : Int32) : Option gS :=
  if ((x1 * 6) + x2) < 0 then
    some s
  else
    if 102 ≤ ((x1 * 6) + x2) then
      some s
    else
      if inB ((x1 * 6) + x2) 102 = true then
        some (sa s 3 (((x1 * 6) + x2).toNatClampNeg) x3)
      else none
set_option maxHeartbeats 4000000 in
set_option maxRecDepth 100000 in
theorem b_X2_keep (r : gS) : ∀ (s : gS) (x1 : Int32) (x2 : Int32) (x3 : Int32) , f_X2_keep s x1 x2 x3 = some r → Go gTr yX2_keep cX2_keep 5 none 1 0 0 (fun r9 w9 => r9 = none ∧ w9 = wW r) 0 0 (wW s) 0 [some (.ref 5), some (.int x1), some (.int x2), some (.int x3), none] [] := by
  intro s x1 x2 x3 h
  rw [f_X2_keep] at h
  refine go_iload_n (q := 1) dX2_keep_0 rfl rfl ?_
  refine go_bipush (v := 6) (q := 3) dX2_keep_1 (by decide) rfl ?_
  refine go_imul (q := 4) dX2_keep_3 rfl ?_
  refine go_iload_n (q := 5) dX2_keep_4 rfl rfl ?_
  refine go_iadd (q := 6) dX2_keep_5 rfl ?_
  refine go_istore (ls2 := [some (.ref 5), some (.int x1), some (.int x2), some (.int x3), some (.int ((x1 * 6) + x2))]) (q := 8) dX2_keep_6 (by decide) rfl rfl ?_
  refine go_iload (q := 10) dX2_keep_8 rfl rfl ?_
  refine go_if_lt (tgt := 31) (q := 13) dX2_keep_10 (by decide) rfl (fun c1 => ?_) (fun c1 => ?_)
  · replace h := g_pos c1 h
    cases h
    exact go_ret dX2_keep_31 rfl (Nat.le_refl _) (Nat.le_refl _) ⟨rfl, rfl⟩
  · replace h := g_neg c1 h
    refine go_iload (q := 15) dX2_keep_13 rfl rfl ?_
    refine go_aload_n (q := 16) dX2_keep_15 rfl rfl ?_
    refine go_get (v := .ref 8) (q := 19) dX2_keep_16 fX2_34 (wg_5 _) rfl rfl ?_
    refine go_alen (v := 102) (q := 20) dX2_keep_19 (by decide) (wg_8 _) rfl rfl ?_
    refine go_icmp_ge (tgt := 31) (q := 23) dX2_keep_20 (by decide) rfl (fun c2 => ?_) (fun c2 => ?_)
    · replace h := g_pos c2 h
      cases h
      exact go_ret dX2_keep_31 rfl (Nat.le_refl _) (Nat.le_refl _) ⟨rfl, rfl⟩
    · replace h := g_neg c2 h
      refine go_aload_n (q := 24) dX2_keep_23 rfl rfl ?_
      refine go_get (v := .ref 8) (q := 27) dX2_keep_24 fX2_34 (wg_5 _) rfl rfl ?_
      refine go_iload (q := 29) dX2_keep_27 rfl rfl ?_
      refine go_iload_n (q := 30) dX2_keep_29 rfl rfl ?_
      obtain ⟨g3, h⟩ := g_guard h
      refine go_iast (w2 := wW (sa s 3 (((x1 * 6) + x2).toNatClampNeg) x3)) (q := 31) dX2_keep_30 (wg_8 _) (inB_in g3) (wa_8 _ _ _) rfl ?_
      cases h
      exact go_ret dX2_keep_31 rfl (Nat.le_refl _) (Nat.le_refl _) ⟨rfl, rfl⟩
theorem t_X2_keep (s : gS) (x1 : Int32) (x2 : Int32) (x3 : Int32) (r : gS) (h : f_X2_keep s x1 x2 x3 = some r) : Cal 1 mX2_keep [.ref 5, .int x1, .int x2, .int x3] (wW s) 0 0 none (wW r) := Cal.of (by decide) (g_cats rfl) (Nat.le_of_ble_eq_true rfl) (b_X2_keep r s x1 x2 x3 h)
def f_X2_winningFor (s : gS) (x1 : Int32) (x2 : Int32) : Option Int32 :=
  (f_X3_stonesOf s x1 x2).bind fun r1 =>
  (f_X3_stonesOf s (1 - x1) x2).bind fun r3 =>
  (f_X0_openCells s (r1 ||| r3)).bind fun r5 =>
  if (s.1 4) = 0 then
    (f_X0_completing s r1).bind fun r8 =>
    some (r8 &&& r5)
  else
    some 0
set_option maxHeartbeats 4000000 in
set_option maxRecDepth 100000 in
theorem b_X2_winningFor (s : gS) (r : Int32) : ∀ (x1 : Int32) (x2 : Int32) , f_X2_winningFor s x1 x2 = some r → Go gTr yX2_winningFor cX2_winningFor 5 (some .int) 3 0 0 (fun r9 w9 => r9 = some (.int r) ∧ w9 = wW s) 0 0 (wW s) 0 [some (.ref 5), some (.int x1), some (.int x2), none, none] [] := by
  intro x1 x2 h
  rw [f_X2_winningFor] at h
  refine go_aload_n (q := 1) dX2_winningFor_0 rfl rfl ?_
  refine go_get (v := .ref 2) (q := 4) dX2_winningFor_1 fX2_19 (wg_5 _) rfl rfl ?_
  refine go_iload_n (q := 5) dX2_winningFor_4 rfl rfl ?_
  refine go_iload_n (q := 6) dX2_winningFor_5 rfl rfl ?_
  obtain ⟨r1, e2, h⟩ := g_bind h
  refine go_callV0 (q := 9) (as := [.int x1, .int x2]) (rest := []) (st2 := [.int r1]) (w2 := wW s) dX2_winningFor_6 cX2_66 (t_X3_stonesOf s x1 x2 _ e2) (wg_2 _) rfl rfl rfl (Nat.le_of_ble_eq_true rfl) (by decide) ⟨Nat.le_refl _, Nat.le_refl _⟩ rfl rfl ?_
  refine go_istore_n (ls2 := [some (.ref 5), some (.int x1), some (.int x2), some (.int r1), none]) (q := 10) dX2_winningFor_9 (by decide) rfl rfl ?_
  refine go_aload_n (q := 11) dX2_winningFor_10 rfl rfl ?_
  refine go_get (v := .ref 1) (q := 14) dX2_winningFor_11 fX2_13 (wg_5 _) rfl rfl ?_
  refine go_iload_n (q := 15) dX2_winningFor_14 rfl rfl ?_
  refine go_aload_n (q := 16) dX2_winningFor_15 rfl rfl ?_
  refine go_get (v := .ref 2) (q := 19) dX2_winningFor_16 fX2_19 (wg_5 _) rfl rfl ?_
  refine go_iconst (v := 1) (q := 20) dX2_winningFor_19 (by decide) rfl ?_
  refine go_iload_n (q := 21) dX2_winningFor_20 rfl rfl ?_
  refine go_isub (q := 22) dX2_winningFor_21 rfl ?_
  refine go_iload_n (q := 23) dX2_winningFor_22 rfl rfl ?_
  obtain ⟨r3, e4, h⟩ := g_bind h
  refine go_callV0 (q := 26) (as := [.int (1 - x1), .int x2]) (rest := [.int r1, .ref 1]) (st2 := [.int r3, .int r1, .ref 1]) (w2 := wW s) dX2_winningFor_23 cX2_66 (t_X3_stonesOf s (1 - x1) x2 _ e4) (wg_2 _) rfl rfl rfl (Nat.le_of_ble_eq_true rfl) (by decide) ⟨Nat.le_refl _, Nat.le_refl _⟩ rfl rfl ?_
  refine go_ior (q := 27) dX2_winningFor_26 rfl ?_
  obtain ⟨r5, e6, h⟩ := g_bind h
  refine go_callV0 (q := 30) (as := [.int (r1 ||| r3)]) (rest := []) (st2 := [.int r5]) (w2 := wW s) dX2_winningFor_27 cX2_116 (t_X0_openCells s (r1 ||| r3) _ e6) (wg_1 _) rfl rfl rfl (Nat.le_of_ble_eq_true rfl) (by decide) ⟨Nat.le_refl _, Nat.le_refl _⟩ rfl rfl ?_
  refine go_istore (ls2 := [some (.ref 5), some (.int x1), some (.int x2), some (.int r1), some (.int r5)]) (q := 32) dX2_winningFor_30 (by decide) rfl rfl ?_
  refine go_aload_n (q := 33) dX2_winningFor_32 rfl rfl ?_
  refine go_get (v := .ref 1) (q := 36) dX2_winningFor_33 fX2_13 (wg_5 _) rfl rfl ?_
  refine go_get (v := .int (s.1 4)) (q := 39) dX2_winningFor_36 fX2_126 (wg_1 _) rfl rfl ?_
  refine go_if_eq (tgt := 46) (q := 42) dX2_winningFor_39 (by decide) rfl (fun c7 => ?_) (fun c7 => ?_)
  · replace h := g_pos c7 h
    refine go_aload_n (q := 47) dX2_winningFor_46 rfl rfl ?_
    refine go_get (v := .ref 1) (q := 50) dX2_winningFor_47 fX2_13 (wg_5 _) rfl rfl ?_
    refine go_iload_n (q := 51) dX2_winningFor_50 rfl rfl ?_
    obtain ⟨r8, e9, h⟩ := g_bind h
    refine go_callV0 (q := 54) (as := [.int r1]) (rest := []) (st2 := [.int r8]) (w2 := wW s) dX2_winningFor_51 cX2_130 (t_X0_completing s r1 _ e9) (wg_1 _) rfl rfl rfl (Nat.le_of_ble_eq_true rfl) (by decide) ⟨Nat.le_refl _, Nat.le_refl _⟩ rfl rfl ?_
    refine go_iload (q := 56) dX2_winningFor_54 rfl rfl ?_
    refine go_iand (q := 57) dX2_winningFor_56 rfl ?_
    cases h
    exact go_iret dX2_winningFor_57 rfl rfl (Nat.le_refl _) (Nat.le_refl _) ⟨rfl, rfl⟩
  · replace h := g_neg c7 h
    refine go_iconst (v := 0) (q := 43) dX2_winningFor_42 (by decide) rfl ?_
    refine go_goto (tgt := 57) dX2_winningFor_43 (by decide) ?_
    cases h
    exact go_iret dX2_winningFor_57 rfl rfl (Nat.le_refl _) (Nat.le_refl _) ⟨rfl, rfl⟩
theorem t_X2_winningFor (s : gS) (x1 : Int32) (x2 : Int32) (r : Int32) (h : f_X2_winningFor s x1 x2 = some r) : Cal 3 mX2_winningFor [.ref 5, .int x1, .int x2] (wW s) 0 0 (some (.int r)) (wW s) := Cal.of (by decide) (g_cats rfl) (Nat.le_of_ble_eq_true rfl) (b_X2_winningFor s r x1 x2 h)
def f_X2_threatOf (s : gS) (x1 : Int32) : Option Int32 :=
  (f_X3_hasEndedBehind s x1).bind fun r1 =>
  if r1 = 0 then
    (f_X2_makerOf x1).bind fun r4 =>
    (f_X2_winningFor s r4 x1).bind fun r6 =>
    (f_J6_bitCount_0f7a4 r6).bind fun r8 =>
    some r8
  else
    some 0
set_option maxHeartbeats 4000000 in
set_option maxRecDepth 100000 in
theorem b_X2_threatOf (s : gS) (r : Int32) : ∀ (x1 : Int32) , f_X2_threatOf s x1 = some r → Go gTr yX2_threatOf cX2_threatOf 2 (some .int) 4 0 0 (fun r9 w9 => r9 = some (.int r) ∧ w9 = wW s) 0 0 (wW s) 0 [some (.ref 5), some (.int x1)] [] := by
  intro x1 h
  rw [f_X2_threatOf] at h
  refine go_aload_n (q := 1) dX2_threatOf_0 rfl rfl ?_
  refine go_get (v := .ref 2) (q := 4) dX2_threatOf_1 fX2_19 (wg_5 _) rfl rfl ?_
  refine go_iload_n (q := 5) dX2_threatOf_4 rfl rfl ?_
  obtain ⟨r1, e2, h⟩ := g_bind h
  refine go_callV0 (q := 8) (as := [.int x1]) (rest := []) (st2 := [.int r1]) (w2 := wW s) dX2_threatOf_5 cX2_56 (t_X3_hasEndedBehind s x1 _ e2) (wg_2 _) rfl rfl rfl (Nat.le_of_ble_eq_true rfl) (by decide) ⟨Nat.le_refl _, Nat.le_refl _⟩ rfl rfl ?_
  refine go_if_eq (tgt := 15) (q := 11) dX2_threatOf_8 (by decide) rfl (fun c3 => ?_) (fun c3 => ?_)
  · replace h := g_pos c3 h
    refine go_aload_n (q := 16) dX2_threatOf_15 rfl rfl ?_
    refine go_iload_n (q := 17) dX2_threatOf_16 rfl rfl ?_
    obtain ⟨r4, e5, h⟩ := g_bind h
    refine go_callS0 (q := 20) (as := [.int x1]) (rest := [.ref 5]) (st2 := [.int r4, .ref 5]) (w2 := wW s) dX2_threatOf_17 cX2_110 (t_X2_makerOf _ x1 _ e5) rfl rfl (Nat.le_of_ble_eq_true rfl) (by decide) ⟨Nat.le_refl _, Nat.le_refl _⟩ rfl rfl ?_
    refine go_iload_n (q := 21) dX2_threatOf_20 rfl rfl ?_
    obtain ⟨r6, e7, h⟩ := g_bind h
    refine go_callV0 (q := 24) (as := [.int r4, .int x1]) (rest := []) (st2 := [.int r6]) (w2 := wW s) dX2_threatOf_21 cX2_113 (t_X2_winningFor s r4 x1 _ e7) (wg_5 _) rfl rfl rfl (Nat.le_of_ble_eq_true rfl) (by decide) ⟨Nat.le_refl _, Nat.le_refl _⟩ rfl rfl ?_
    obtain ⟨r8, e9, h⟩ := g_bind h
    refine go_callS0 (q := 27) (as := [.int r6]) (rest := []) (st2 := [.int r8]) (w2 := wW s) dX2_threatOf_24 cX2_96 (t_J6_bitCount_0f7a4 _ r6 _ e9) rfl rfl (Nat.le_of_ble_eq_true rfl) (by decide) ⟨Nat.le_refl _, Nat.le_refl _⟩ rfl rfl ?_
    cases h
    exact go_iret dX2_threatOf_27 rfl rfl (Nat.le_refl _) (Nat.le_refl _) ⟨rfl, rfl⟩
  · replace h := g_neg c3 h
    refine go_iconst (v := 0) (q := 12) dX2_threatOf_11 (by decide) rfl ?_
    refine go_goto (tgt := 27) dX2_threatOf_12 (by decide) ?_
    cases h
    exact go_iret dX2_threatOf_27 rfl rfl (Nat.le_refl _) (Nat.le_refl _) ⟨rfl, rfl⟩
theorem t_X2_threatOf (s : gS) (x1 : Int32) (r : Int32) (h : f_X2_threatOf s x1 = some r) : Cal 4 mX2_threatOf [.ref 5, .int x1] (wW s) 0 0 (some (.int r)) (wW s) := Cal.of (by decide) (g_cats rfl) (Nat.le_of_ble_eq_true rfl) (b_X2_threatOf s r x1 h)
def f_X2_forcedOf (s : gS) (x1 : Int32) : Option (Int32 × gS) :=
  (f_X2_makerOf x1).bind fun r1 =>
  (f_X3_stonesOf s r1 (x1 - 1)).bind fun r3 =>
  (f_X2_makerOf x1).bind fun r5 =>
  (f_X3_stonesOf s (1 - r5) (x1 - 1)).bind fun r7 =>
  (f_X0_openCells s (r3 ||| r7)).bind fun r9 =>
  (f_X3_bitOfMove s x1).bind fun r11 =>
  if (r9 &&& (r11 ^^^ (-1 : Int32))) = 0 then
    some (0, s)
  else
    (f_X2_valueBehind s x1 ((s.1 9) - 1)).bind fun r14 =>
    if r14.1 = 1 then
      some (0, r14.2)
    else
      (f_X5_lowestReaching r14.2 r3 r7 (r9 &&& (r11 ^^^ (-1 : Int32))) ((r14.2.1 9) - 1) 0).bind fun r17 =>
      if r17 = 0 then
        some (1, r14.2)
      else
        some (0, r14.2)
set_option maxHeartbeats 4000000 in
set_option maxRecDepth 100000 in
theorem b_X2_forcedOf (r : Int32 × gS) : ∀ (s : gS) (x1 : Int32) , f_X2_forcedOf s x1 = some r → Go gTr yX2_forcedOf cX2_forcedOf 5 (some .int) 12 0 0 (fun r9 w9 => r9 = some (.int r.1) ∧ w9 = wW r.2) 0 0 (wW s) 0 [some (.ref 5), some (.int x1), none, none, none] [] := by
  intro s x1 h
  rw [f_X2_forcedOf] at h
  refine go_aload_n (q := 1) dX2_forcedOf_0 rfl rfl ?_
  refine go_get (v := .ref 2) (q := 4) dX2_forcedOf_1 fX2_19 (wg_5 _) rfl rfl ?_
  refine go_iload_n (q := 5) dX2_forcedOf_4 rfl rfl ?_
  obtain ⟨r1, e2, h⟩ := g_bind h
  refine go_callS0 (q := 8) (as := [.int x1]) (rest := [.ref 2]) (st2 := [.int r1, .ref 2]) (w2 := wW s) dX2_forcedOf_5 cX2_110 (t_X2_makerOf _ x1 _ e2) rfl rfl (Nat.le_of_ble_eq_true rfl) (by decide) ⟨Nat.le_refl _, Nat.le_refl _⟩ rfl rfl ?_
  refine go_iload_n (q := 9) dX2_forcedOf_8 rfl rfl ?_
  refine go_iconst (v := 1) (q := 10) dX2_forcedOf_9 (by decide) rfl ?_
  refine go_isub (q := 11) dX2_forcedOf_10 rfl ?_
  obtain ⟨r3, e4, h⟩ := g_bind h
  refine go_callV0 (q := 14) (as := [.int r1, .int (x1 - 1)]) (rest := []) (st2 := [.int r3]) (w2 := wW s) dX2_forcedOf_11 cX2_66 (t_X3_stonesOf s r1 (x1 - 1) _ e4) (wg_2 _) rfl rfl rfl (Nat.le_of_ble_eq_true rfl) (by decide) ⟨Nat.le_refl _, Nat.le_refl _⟩ rfl rfl ?_
  refine go_istore_n (ls2 := [some (.ref 5), some (.int x1), some (.int r3), none, none]) (q := 15) dX2_forcedOf_14 (by decide) rfl rfl ?_
  refine go_aload_n (q := 16) dX2_forcedOf_15 rfl rfl ?_
  refine go_get (v := .ref 2) (q := 19) dX2_forcedOf_16 fX2_19 (wg_5 _) rfl rfl ?_
  refine go_iconst (v := 1) (q := 20) dX2_forcedOf_19 (by decide) rfl ?_
  refine go_iload_n (q := 21) dX2_forcedOf_20 rfl rfl ?_
  obtain ⟨r5, e6, h⟩ := g_bind h
  refine go_callS0 (q := 24) (as := [.int x1]) (rest := [.int 1, .ref 2]) (st2 := [.int r5, .int 1, .ref 2]) (w2 := wW s) dX2_forcedOf_21 cX2_110 (t_X2_makerOf _ x1 _ e6) rfl rfl (Nat.le_of_ble_eq_true rfl) (by decide) ⟨Nat.le_refl _, Nat.le_refl _⟩ rfl rfl ?_
  refine go_isub (q := 25) dX2_forcedOf_24 rfl ?_
  refine go_iload_n (q := 26) dX2_forcedOf_25 rfl rfl ?_
  refine go_iconst (v := 1) (q := 27) dX2_forcedOf_26 (by decide) rfl ?_
  refine go_isub (q := 28) dX2_forcedOf_27 rfl ?_
  obtain ⟨r7, e8, h⟩ := g_bind h
  refine go_callV0 (q := 31) (as := [.int (1 - r5), .int (x1 - 1)]) (rest := []) (st2 := [.int r7]) (w2 := wW s) dX2_forcedOf_28 cX2_66 (t_X3_stonesOf s (1 - r5) (x1 - 1) _ e8) (wg_2 _) rfl rfl rfl (Nat.le_of_ble_eq_true rfl) (by decide) ⟨Nat.le_refl _, Nat.le_refl _⟩ rfl rfl ?_
  refine go_istore_n (ls2 := [some (.ref 5), some (.int x1), some (.int r3), some (.int r7), none]) (q := 32) dX2_forcedOf_31 (by decide) rfl rfl ?_
  refine go_aload_n (q := 33) dX2_forcedOf_32 rfl rfl ?_
  refine go_get (v := .ref 1) (q := 36) dX2_forcedOf_33 fX2_13 (wg_5 _) rfl rfl ?_
  refine go_iload_n (q := 37) dX2_forcedOf_36 rfl rfl ?_
  refine go_iload_n (q := 38) dX2_forcedOf_37 rfl rfl ?_
  refine go_ior (q := 39) dX2_forcedOf_38 rfl ?_
  obtain ⟨r9, e10, h⟩ := g_bind h
  refine go_callV0 (q := 42) (as := [.int (r3 ||| r7)]) (rest := []) (st2 := [.int r9]) (w2 := wW s) dX2_forcedOf_39 cX2_116 (t_X0_openCells s (r3 ||| r7) _ e10) (wg_1 _) rfl rfl rfl (Nat.le_of_ble_eq_true rfl) (by decide) ⟨Nat.le_refl _, Nat.le_refl _⟩ rfl rfl ?_
  refine go_aload_n (q := 43) dX2_forcedOf_42 rfl rfl ?_
  refine go_get (v := .ref 2) (q := 46) dX2_forcedOf_43 fX2_19 (wg_5 _) rfl rfl ?_
  refine go_iload_n (q := 47) dX2_forcedOf_46 rfl rfl ?_
  obtain ⟨r11, e12, h⟩ := g_bind h
  refine go_callV0 (q := 50) (as := [.int x1]) (rest := [.int r9]) (st2 := [.int r11, .int r9]) (w2 := wW s) dX2_forcedOf_47 cX2_119 (t_X3_bitOfMove s x1 _ e12) (wg_2 _) rfl rfl rfl (Nat.le_of_ble_eq_true rfl) (by decide) ⟨Nat.le_refl _, Nat.le_refl _⟩ rfl rfl ?_
  refine go_iconst (v := (-1 : Int32)) (q := 51) dX2_forcedOf_50 (by decide) rfl ?_
  refine go_ixor (q := 52) dX2_forcedOf_51 rfl ?_
  refine go_iand (q := 53) dX2_forcedOf_52 rfl ?_
  refine go_istore (ls2 := [some (.ref 5), some (.int x1), some (.int r3), some (.int r7), some (.int (r9 &&& (r11 ^^^ (-1 : Int32))))]) (q := 55) dX2_forcedOf_53 (by decide) rfl rfl ?_
  refine go_iload (q := 57) dX2_forcedOf_55 rfl rfl ?_
  refine go_if_eq (tgt := 75) (q := 60) dX2_forcedOf_57 (by decide) rfl (fun c13 => ?_) (fun c13 => ?_)
  · replace h := g_pos c13 h
    refine go_iconst (v := 0) (q := 76) dX2_forcedOf_75 (by decide) rfl ?_
    cases h
    exact go_iret dX2_forcedOf_76 rfl rfl (Nat.le_refl _) (Nat.le_refl _) ⟨rfl, rfl⟩
  · replace h := g_neg c13 h
    refine go_aload_n (q := 61) dX2_forcedOf_60 rfl rfl ?_
    refine go_iload_n (q := 62) dX2_forcedOf_61 rfl rfl ?_
    refine go_aload_n (q := 63) dX2_forcedOf_62 rfl rfl ?_
    refine go_get (v := .int (s.1 9)) (q := 66) dX2_forcedOf_63 fX2_37 (wg_5 _) rfl rfl ?_
    refine go_iconst (v := 1) (q := 67) dX2_forcedOf_66 (by decide) rfl ?_
    refine go_isub (q := 68) dX2_forcedOf_67 rfl ?_
    obtain ⟨r14, e15, h⟩ := g_bind h
    refine go_callV0 (q := 71) (as := [.int x1, .int ((s.1 9) - 1)]) (rest := []) (st2 := [.int r14.1]) (w2 := wW r14.2) dX2_forcedOf_68 cX2_73 (t_X2_valueBehind s x1 ((s.1 9) - 1) _ e15) (wg_5 _) rfl rfl rfl (Nat.le_of_ble_eq_true rfl) (by decide) ⟨Nat.le_refl _, Nat.le_refl _⟩ rfl rfl ?_
    refine go_iconst (v := 1) (q := 72) dX2_forcedOf_71 (by decide) rfl ?_
    refine go_icmp_ne (tgt := 77) (q := 75) dX2_forcedOf_72 (by decide) rfl (fun c16 => ?_) (fun c16 => ?_)
    · replace h := g_neg c16 h
      refine go_aload_n (q := 78) dX2_forcedOf_77 rfl rfl ?_
      refine go_get (v := .ref 4) (q := 81) dX2_forcedOf_78 fX2_23 (wg_5 _) rfl rfl ?_
      refine go_iload_n (q := 82) dX2_forcedOf_81 rfl rfl ?_
      refine go_iload_n (q := 83) dX2_forcedOf_82 rfl rfl ?_
      refine go_iload (q := 85) dX2_forcedOf_83 rfl rfl ?_
      refine go_aload_n (q := 86) dX2_forcedOf_85 rfl rfl ?_
      refine go_get (v := .int (r14.2.1 9)) (q := 89) dX2_forcedOf_86 fX2_37 (wg_5 _) rfl rfl ?_
      refine go_iconst (v := 1) (q := 90) dX2_forcedOf_89 (by decide) rfl ?_
      refine go_isub (q := 91) dX2_forcedOf_90 rfl ?_
      refine go_iconst (v := 0) (q := 92) dX2_forcedOf_91 (by decide) rfl ?_
      obtain ⟨r17, e18, h⟩ := g_bind h
      refine go_callV0 (q := 95) (as := [.int r3, .int r7, .int (r9 &&& (r11 ^^^ (-1 : Int32))), .int ((r14.2.1 9) - 1), .int 0]) (rest := []) (st2 := [.int r17]) (w2 := wW r14.2) dX2_forcedOf_92 cX2_122 (t_X5_lowestReaching r14.2 r3 r7 (r9 &&& (r11 ^^^ (-1 : Int32))) ((r14.2.1 9) - 1) 0 _ e18) (wg_4 _) rfl rfl rfl (Nat.le_of_ble_eq_true rfl) (by decide) ⟨Nat.le_refl _, Nat.le_refl _⟩ rfl rfl ?_
      refine go_if_ne (tgt := 102) (q := 98) dX2_forcedOf_95 (by decide) rfl (fun c19 => ?_) (fun c19 => ?_)
      · replace h := g_neg c19 h
        refine go_iconst (v := 0) (q := 103) dX2_forcedOf_102 (by decide) rfl ?_
        cases h
        exact go_iret dX2_forcedOf_103 rfl rfl (Nat.le_refl _) (Nat.le_refl _) ⟨rfl, rfl⟩
      · replace h := g_pos c19 h
        refine go_iconst (v := 1) (q := 99) dX2_forcedOf_98 (by decide) rfl ?_
        refine go_goto (tgt := 103) dX2_forcedOf_99 (by decide) ?_
        cases h
        exact go_iret dX2_forcedOf_103 rfl rfl (Nat.le_refl _) (Nat.le_refl _) ⟨rfl, rfl⟩
    · replace h := g_pos c16 h
      refine go_iconst (v := 0) (q := 76) dX2_forcedOf_75 (by decide) rfl ?_
      cases h
      exact go_iret dX2_forcedOf_76 rfl rfl (Nat.le_refl _) (Nat.le_refl _) ⟨rfl, rfl⟩
theorem t_X2_forcedOf (s : gS) (x1 : Int32) (r : Int32 × gS) (h : f_X2_forcedOf s x1 = some r) : Cal 12 mX2_forcedOf [.ref 5, .int x1] (wW s) 0 0 (some (.int r.1)) (wW r.2) := Cal.of (by decide) (g_cats rfl) (Nat.le_of_ble_eq_true rfl) (b_X2_forcedOf r s x1 h)
def f_X2_missedBy (s : gS) (x1 : Int32) : Option Int32 :=
  (f_X2_makerOf x1).bind fun r1 =>
  (f_X2_winningFor s r1 (x1 - 1)).bind fun r3 =>
  (f_X3_bitOfMove s x1).bind fun r5 =>
  if (r3 &&& r5) = 0 then
    some r3
  else
    some 0
set_option maxHeartbeats 4000000 in
set_option maxRecDepth 100000 in
theorem b_X2_missedBy (s : gS) (r : Int32) : ∀ (x1 : Int32) , f_X2_missedBy s x1 = some r → Go gTr yX2_missedBy cX2_missedBy 3 (some .int) 4 0 0 (fun r9 w9 => r9 = some (.int r) ∧ w9 = wW s) 0 0 (wW s) 0 [some (.ref 5), some (.int x1), none] [] := by
  intro x1 h
  rw [f_X2_missedBy] at h
  refine go_aload_n (q := 1) dX2_missedBy_0 rfl rfl ?_
  refine go_iload_n (q := 2) dX2_missedBy_1 rfl rfl ?_
  obtain ⟨r1, e2, h⟩ := g_bind h
  refine go_callS0 (q := 5) (as := [.int x1]) (rest := [.ref 5]) (st2 := [.int r1, .ref 5]) (w2 := wW s) dX2_missedBy_2 cX2_110 (t_X2_makerOf _ x1 _ e2) rfl rfl (Nat.le_of_ble_eq_true rfl) (by decide) ⟨Nat.le_refl _, Nat.le_refl _⟩ rfl rfl ?_
  refine go_iload_n (q := 6) dX2_missedBy_5 rfl rfl ?_
  refine go_iconst (v := 1) (q := 7) dX2_missedBy_6 (by decide) rfl ?_
  refine go_isub (q := 8) dX2_missedBy_7 rfl ?_
  obtain ⟨r3, e4, h⟩ := g_bind h
  refine go_callV0 (q := 11) (as := [.int r1, .int (x1 - 1)]) (rest := []) (st2 := [.int r3]) (w2 := wW s) dX2_missedBy_8 cX2_113 (t_X2_winningFor s r1 (x1 - 1) _ e4) (wg_5 _) rfl rfl rfl (Nat.le_of_ble_eq_true rfl) (by decide) ⟨Nat.le_refl _, Nat.le_refl _⟩ rfl rfl ?_
  refine go_istore_n (ls2 := [some (.ref 5), some (.int x1), some (.int r3)]) (q := 12) dX2_missedBy_11 (by decide) rfl rfl ?_
  refine go_iload_n (q := 13) dX2_missedBy_12 rfl rfl ?_
  refine go_aload_n (q := 14) dX2_missedBy_13 rfl rfl ?_
  refine go_get (v := .ref 2) (q := 17) dX2_missedBy_14 fX2_19 (wg_5 _) rfl rfl ?_
  refine go_iload_n (q := 18) dX2_missedBy_17 rfl rfl ?_
  obtain ⟨r5, e6, h⟩ := g_bind h
  refine go_callV0 (q := 21) (as := [.int x1]) (rest := [.int r3]) (st2 := [.int r5, .int r3]) (w2 := wW s) dX2_missedBy_18 cX2_119 (t_X3_bitOfMove s x1 _ e6) (wg_2 _) rfl rfl rfl (Nat.le_of_ble_eq_true rfl) (by decide) ⟨Nat.le_refl _, Nat.le_refl _⟩ rfl rfl ?_
  refine go_iand (q := 22) dX2_missedBy_21 rfl ?_
  refine go_if_eq (tgt := 29) (q := 25) dX2_missedBy_22 (by decide) rfl (fun c7 => ?_) (fun c7 => ?_)
  · replace h := g_pos c7 h
    refine go_iload_n (q := 30) dX2_missedBy_29 rfl rfl ?_
    cases h
    exact go_iret dX2_missedBy_30 rfl rfl (Nat.le_refl _) (Nat.le_refl _) ⟨rfl, rfl⟩
  · replace h := g_neg c7 h
    refine go_iconst (v := 0) (q := 26) dX2_missedBy_25 (by decide) rfl ?_
    refine go_goto (tgt := 30) dX2_missedBy_26 (by decide) ?_
    cases h
    exact go_iret dX2_missedBy_30 rfl rfl (Nat.le_refl _) (Nat.le_refl _) ⟨rfl, rfl⟩
theorem t_X2_missedBy (s : gS) (x1 : Int32) (r : Int32) (h : f_X2_missedBy s x1 = some r) : Cal 4 mX2_missedBy [.ref 5, .int x1] (wW s) 0 0 (some (.int r)) (wW s) := Cal.of (by decide) (g_cats rfl) (Nat.le_of_ble_eq_true rfl) (b_X2_missedBy s r x1 h)
def f_X2_turningMove_22 : Nat → gS → Int32 → Int32 → Int32 → Option (Int32 × gS)
  | 0, _, _, _, _ => none
  | φ + 1, s, x1, x2, x3 =>
    if x3 < 1 then
      some (x1, s)
    else
      if x2 = 2 then
        some (x1, s)
      else
        (f_X2_leaderBehind s x3).bind fun r3 =>
        if r3.1 = x2 then
          f_X2_turningMove_22 φ r3.2 x3 x2 (x3 + (-1 : Int32))
        else
          some (x1, r3.2)
set_option maxHeartbeats 4000000 in
set_option maxRecDepth 100000 in
theorem b_X2_turningMove_22 (r : Int32 × gS) : ∀ (φ : Nat) (s : gS) (x1 : Int32) (x2 : Int32) (x3 : Int32) , f_X2_turningMove_22 φ s x1 x2 x3 = some r → Go gTr yX2_turningMove cX2_turningMove 4 (some .int) 13 0 0 (fun r9 w9 => r9 = some (.int r.1) ∧ w9 = wW r.2) 0 0 (wW s) 22 [some (.ref 5), some (.int x1), some (.int x2), some (.int x3)] [] := by
  intro φ
  induction φ with
  | zero =>
    intro s x1 x2 x3 h
    exact absurd h (by intro h0; cases h0)
  | succ φ ih =>
    intro s x1 x2 x3 h
    rw [f_X2_turningMove_22] at h
    refine go_iload_n (q := 23) dX2_turningMove_22 rfl rfl ?_
    refine go_iconst (v := 1) (q := 24) dX2_turningMove_23 (by decide) rfl ?_
    refine go_icmp_lt (tgt := 52) (q := 27) dX2_turningMove_24 (by decide) rfl (fun c1 => ?_) (fun c1 => ?_)
    · replace h := g_pos c1 h
      refine go_iload_n (q := 53) dX2_turningMove_52 rfl rfl ?_
      cases h
      exact go_iret dX2_turningMove_53 rfl rfl (Nat.le_refl _) (Nat.le_refl _) ⟨rfl, rfl⟩
    · replace h := g_neg c1 h
      refine go_iload_n (q := 28) dX2_turningMove_27 rfl rfl ?_
      refine go_iconst (v := 2) (q := 29) dX2_turningMove_28 (by decide) rfl ?_
      refine go_icmp_eq (tgt := 52) (q := 32) dX2_turningMove_29 (by decide) rfl (fun c2 => ?_) (fun c2 => ?_)
      · replace h := g_pos c2 h
        refine go_iload_n (q := 53) dX2_turningMove_52 rfl rfl ?_
        cases h
        exact go_iret dX2_turningMove_53 rfl rfl (Nat.le_refl _) (Nat.le_refl _) ⟨rfl, rfl⟩
      · replace h := g_neg c2 h
        refine go_aload_n (q := 33) dX2_turningMove_32 rfl rfl ?_
        refine go_iload_n (q := 34) dX2_turningMove_33 rfl rfl ?_
        obtain ⟨r3, e4, h⟩ := g_bind h
        refine go_callV0 (q := 37) (as := [.int x3]) (rest := []) (st2 := [.int r3.1]) (w2 := wW r3.2) dX2_turningMove_34 cX2_133 (t_X2_leaderBehind s x3 _ e4) (wg_5 _) rfl rfl rfl (Nat.le_of_ble_eq_true rfl) (by decide) ⟨Nat.le_refl _, Nat.le_refl _⟩ rfl rfl ?_
        refine go_iload_n (q := 38) dX2_turningMove_37 rfl rfl ?_
        refine go_icmp_eq (tgt := 44) (q := 41) dX2_turningMove_38 (by decide) rfl (fun c5 => ?_) (fun c5 => ?_)
        · replace h := g_pos c5 h
          refine go_iload_n (q := 45) dX2_turningMove_44 rfl rfl ?_
          refine go_istore_n (ls2 := [some (.ref 5), some (.int x3), some (.int x2), some (.int x3)]) (q := 46) dX2_turningMove_45 (by decide) rfl rfl ?_
          refine go_iinc (v := x3 + (-1 : Int32)) (ls2 := [some (.ref 5), some (.int x3), some (.int x2), some (.int (x3 + (-1 : Int32)))]) (q := 49) dX2_turningMove_46 (by decide) rfl rfl rfl rfl ?_
          refine go_goto (tgt := 22) dX2_turningMove_49 (by decide) ?_
          refine go_ls (ls2 := [some (.ref 5), some (.int x3), some (.int x2), some (.int (x3 + (-1 : Int32)))]) ⟨rfl, rfl, rfl, rfl, trivial⟩ ?_
          exact ih r3.2 x3 x2 (x3 + (-1 : Int32)) h
        · replace h := g_neg c5 h
          refine go_goto (tgt := 52) dX2_turningMove_41 (by decide) ?_
          refine go_iload_n (q := 53) dX2_turningMove_52 rfl rfl ?_
          cases h
          exact go_iret dX2_turningMove_53 rfl rfl (Nat.le_refl _) (Nat.le_refl _) ⟨rfl, rfl⟩
def f_X2_turningMove (s : gS) : Option (Int32 × gS) :=
  (f_X2_leaderBehind s (s.1 7)).bind fun r1 =>
  f_X2_turningMove_22 gφ r1.2 0 r1.1 (r1.2.1 7)
set_option maxHeartbeats 4000000 in
set_option maxRecDepth 100000 in
theorem b_X2_turningMove (r : Int32 × gS) : ∀ (s : gS) , f_X2_turningMove s = some r → Go gTr yX2_turningMove cX2_turningMove 4 (some .int) 13 0 0 (fun r9 w9 => r9 = some (.int r.1) ∧ w9 = wW r.2) 0 0 (wW s) 0 [some (.ref 5), none, none, none] [] := by
  intro s h
  rw [f_X2_turningMove] at h
  refine go_iconst (v := 0) (q := 1) dX2_turningMove_0 (by decide) rfl ?_
  refine go_istore_n (ls2 := [some (.ref 5), some (.int 0), none, none]) (q := 2) dX2_turningMove_1 (by decide) rfl rfl ?_
  refine go_aload_n (q := 3) dX2_turningMove_2 rfl rfl ?_
  refine go_aload_n (q := 4) dX2_turningMove_3 rfl rfl ?_
  refine go_get (v := .ref 2) (q := 7) dX2_turningMove_4 fX2_19 (wg_5 _) rfl rfl ?_
  refine go_get (v := .int (s.1 7)) (q := 10) dX2_turningMove_7 fX2_76 (wg_2 _) rfl rfl ?_
  obtain ⟨r1, e2, h⟩ := g_bind h
  refine go_callV0 (q := 13) (as := [.int (s.1 7)]) (rest := []) (st2 := [.int r1.1]) (w2 := wW r1.2) dX2_turningMove_10 cX2_133 (t_X2_leaderBehind s (s.1 7) _ e2) (wg_5 _) rfl rfl rfl (Nat.le_of_ble_eq_true rfl) (by decide) ⟨Nat.le_refl _, Nat.le_refl _⟩ rfl rfl ?_
  refine go_istore_n (ls2 := [some (.ref 5), some (.int 0), some (.int r1.1), none]) (q := 14) dX2_turningMove_13 (by decide) rfl rfl ?_
  refine go_aload_n (q := 15) dX2_turningMove_14 rfl rfl ?_
  refine go_get (v := .ref 2) (q := 18) dX2_turningMove_15 fX2_19 (wg_5 _) rfl rfl ?_
  refine go_get (v := .int (r1.2.1 7)) (q := 21) dX2_turningMove_18 fX2_76 (wg_2 _) rfl rfl ?_
  refine go_istore_n (ls2 := [some (.ref 5), some (.int 0), some (.int r1.1), some (.int (r1.2.1 7))]) (q := 22) dX2_turningMove_21 (by decide) rfl rfl ?_
  refine go_ls (ls2 := [some (.ref 5), some (.int 0), some (.int r1.1), some (.int (r1.2.1 7))]) ⟨rfl, rfl, rfl, rfl, trivial⟩ ?_
  exact b_X2_turningMove_22 r gφ r1.2 0 r1.1 (r1.2.1 7) h
theorem t_X2_turningMove (s : gS) (r : Int32 × gS) (h : f_X2_turningMove s = some r) : Cal 13 mX2_turningMove [.ref 5] (wW s) 0 0 (some (.int r.1)) (wW r.2) := Cal.of (by decide) (g_cats rfl) (Nat.le_of_ble_eq_true rfl) (b_X2_turningMove r s h)
def f_X2_examine_142 (K118 : gS → Int32 → Int32 → Option gS) (s : gS) (x1 : Int32) (x2 : Int32) (t1 : Int32) (t2 : Int32) (t3 : Int32) : Option gS :=
  (f_X2_keep s t1 t2 t3).bind fun r1 =>
  K118 r1 x1 (x2 + 1)
set_option maxHeartbeats 4000000 in
set_option maxRecDepth 100000 in
theorem b_X2_examine_142 (K118 : gS → Int32 → Int32 → Option gS) (r : gS) (hK118 : ∀ (s : gS) (x1 : Int32) (x2 : Int32) , K118 s x1 x2 = some r → Go gTr yX2_examine cX2_examine 3 none 14 0 0 (fun r9 w9 => r9 = none ∧ w9 = wW r) 0 0 (wW s) 118 [some (.ref 5), some (.int x1), some (.int x2)] []) : ∀ (s : gS) (x1 : Int32) (x2 : Int32) (t1 : Int32) (t2 : Int32) (t3 : Int32) , f_X2_examine_142 K118 s x1 x2 t1 t2 t3 = some r → Go gTr yX2_examine cX2_examine 3 none 14 0 0 (fun r9 w9 => r9 = none ∧ w9 = wW r) 0 0 (wW s) 142 [some (.ref 5), some (.int x1), some (.int x2)] [.int t3, .int t2, .int t1, .ref 5] := by
  intro s x1 x2 t1 t2 t3 h
  rw [f_X2_examine_142] at h
  obtain ⟨r1, e2, h⟩ := g_bind h
  refine go_callV0 (q := 145) (as := [.int t1, .int t2, .int t3]) (rest := []) (st2 := []) (w2 := wW r1) dX2_examine_142 cX2_83 (t_X2_keep s t1 t2 t3 _ e2) (wg_5 _) rfl rfl rfl (Nat.le_of_ble_eq_true rfl) (by decide) ⟨Nat.le_refl _, Nat.le_refl _⟩ rfl rfl ?_
  refine go_iinc (v := x2 + 1) (ls2 := [some (.ref 5), some (.int x1), some (.int (x2 + 1))]) (q := 148) dX2_examine_145 (by decide) rfl rfl rfl rfl ?_
  refine go_goto (tgt := 118) dX2_examine_148 (by decide) ?_
  refine go_ls (ls2 := [some (.ref 5), some (.int x1), some (.int (x2 + 1))]) ⟨rfl, rfl, rfl, trivial⟩ ?_
  exact hK118 r1 x1 (x2 + 1) h
def f_X2_examine_118 : Nat → gS → Int32 → Int32 → Option gS
  | 0, _, _, _ => none
  | φ + 1, s, x1, x2 =>
    if (s.1 7) < x2 then
      some s
    else
      if x2 = x1 then
        f_X2_examine_142 (f_X2_examine_118 φ) s x1 x2 x2 5 1
      else
        f_X2_examine_142 (f_X2_examine_118 φ) s x1 x2 x2 5 0
set_option maxHeartbeats 4000000 in
set_option maxRecDepth 100000 in
theorem b_X2_examine_118 (r : gS) : ∀ (φ : Nat) (s : gS) (x1 : Int32) (x2 : Int32) , f_X2_examine_118 φ s x1 x2 = some r → Go gTr yX2_examine cX2_examine 3 none 14 0 0 (fun r9 w9 => r9 = none ∧ w9 = wW r) 0 0 (wW s) 118 [some (.ref 5), some (.int x1), some (.int x2)] [] := by
  intro φ
  induction φ with
  | zero =>
    intro s x1 x2 h
    exact absurd h (by intro h0; cases h0)
  | succ φ ih =>
    intro s x1 x2 h
    rw [f_X2_examine_118] at h
    refine go_iload_n (q := 119) dX2_examine_118 rfl rfl ?_
    refine go_aload_n (q := 120) dX2_examine_119 rfl rfl ?_
    refine go_get (v := .ref 2) (q := 123) dX2_examine_120 fX2_19 (wg_5 _) rfl rfl ?_
    refine go_get (v := .int (s.1 7)) (q := 126) dX2_examine_123 fX2_76 (wg_2 _) rfl rfl ?_
    refine go_icmp_gt (tgt := 151) (q := 129) dX2_examine_126 (by decide) rfl (fun c1 => ?_) (fun c1 => ?_)
    · replace h := g_pos c1 h
      cases h
      exact go_ret dX2_examine_151 rfl (Nat.le_refl _) (Nat.le_refl _) ⟨rfl, rfl⟩
    · replace h := g_neg c1 h
      refine go_aload_n (q := 130) dX2_examine_129 rfl rfl ?_
      refine go_iload_n (q := 131) dX2_examine_130 rfl rfl ?_
      refine go_iconst (v := 5) (q := 132) dX2_examine_131 (by decide) rfl ?_
      refine go_iload_n (q := 133) dX2_examine_132 rfl rfl ?_
      refine go_iload_n (q := 134) dX2_examine_133 rfl rfl ?_
      refine go_icmp_ne (tgt := 141) (q := 137) dX2_examine_134 (by decide) rfl (fun c2 => ?_) (fun c2 => ?_)
      · replace h := g_neg c2 h
        refine go_iconst (v := 0) (q := 142) dX2_examine_141 (by decide) rfl ?_
        refine go_ls (ls2 := [some (.ref 5), some (.int x1), some (.int x2)]) ⟨rfl, rfl, rfl, trivial⟩ ?_
        exact b_X2_examine_142 (f_X2_examine_118 φ) r (fun s x1 x2 h => ih s x1 x2 h) s x1 x2 x2 5 0 h
      · replace h := g_pos c2 h
        refine go_iconst (v := 1) (q := 138) dX2_examine_137 (by decide) rfl ?_
        refine go_goto (tgt := 142) dX2_examine_138 (by decide) ?_
        refine go_ls (ls2 := [some (.ref 5), some (.int x1), some (.int x2)]) ⟨rfl, rfl, rfl, trivial⟩ ?_
        exact b_X2_examine_142 (f_X2_examine_118 φ) r (fun s x1 x2 h => ih s x1 x2 h) s x1 x2 x2 5 1 h
def f_X2_examine_7 : Nat → gS → Int32 → Option gS
  | 0, _, _ => none
  | φ + 1, s, x1 =>
    if (s.1 7) < x1 then
      (f_X2_turningMove (ss s 10 (s.1 7))).bind fun r2 =>
      f_X2_examine_118 gφ r2.2 r2.1 1
    else
      (f_X2_winOf s x1).bind fun r4 =>
      (f_X2_keep s x1 0 r4).bind fun r6 =>
      (f_X2_threatOf r6 x1).bind fun r8 =>
      (f_X2_keep r6 x1 1 r8).bind fun r10 =>
      (f_X2_forcedOf r10 x1).bind fun r12 =>
      (f_X2_keep r12.2 x1 2 r12.1).bind fun r14 =>
      (f_X2_valueBehind r14 (x1 - 1) (r14.1 9)).bind fun r16 =>
      (f_X2_valueBehind r16.2 x1 ((r16.2.1 9) - 1)).bind fun r18 =>
      (f_X2_keep r18.2 x1 3 (r16.1 + r18.1)).bind fun r20 =>
      (f_X2_missedBy r20 x1).bind fun r22 =>
      (f_J6_bitCount_0f7a4 r22).bind fun r24 =>
      (f_X2_keep r20 x1 4 r24).bind fun r26 =>
      f_X2_examine_7 φ r26 (x1 + 1)
set_option maxHeartbeats 4000000 in
set_option maxRecDepth 100000 in
theorem b_X2_examine_7 (r : gS) : ∀ (φ : Nat) (s : gS) (x1 : Int32) , f_X2_examine_7 φ s x1 = some r → Go gTr yX2_examine cX2_examine 3 none 14 0 0 (fun r9 w9 => r9 = none ∧ w9 = wW r) 0 0 (wW s) 7 [some (.ref 5), some (.int x1), none] [] := by
  intro φ
  induction φ with
  | zero =>
    intro s x1 h
    exact absurd h (by intro h0; cases h0)
  | succ φ ih =>
    intro s x1 h
    rw [f_X2_examine_7] at h
    refine go_iload_n (q := 8) dX2_examine_7 rfl rfl ?_
    refine go_aload_n (q := 9) dX2_examine_8 rfl rfl ?_
    refine go_get (v := .ref 2) (q := 12) dX2_examine_9 fX2_19 (wg_5 _) rfl rfl ?_
    refine go_get (v := .int (s.1 7)) (q := 15) dX2_examine_12 fX2_76 (wg_2 _) rfl rfl ?_
    refine go_icmp_gt (tgt := 100) (q := 18) dX2_examine_15 (by decide) rfl (fun c1 => ?_) (fun c1 => ?_)
    · replace h := g_pos c1 h
      refine go_aload_n (q := 101) dX2_examine_100 rfl rfl ?_
      refine go_aload_n (q := 102) dX2_examine_101 rfl rfl ?_
      refine go_get (v := .ref 2) (q := 105) dX2_examine_102 fX2_19 (wg_5 _) rfl rfl ?_
      refine go_get (v := .int (s.1 7)) (q := 108) dX2_examine_105 fX2_76 (wg_2 _) rfl rfl ?_
      refine go_put (w2 := wW (ss s 10 (s.1 7))) (q := 111) dX2_examine_108 fX2_47 (wg_5 _) (Nat.le_of_ble_eq_true rfl) (fun _ => rfl) (fun _ => rfl) (wp_5_7 _ _) rfl ?_
      refine go_aload_n (q := 112) dX2_examine_111 rfl rfl ?_
      obtain ⟨r2, e3, h⟩ := g_bind h
      refine go_callV0 (q := 115) (as := []) (rest := []) (st2 := [.int r2.1]) (w2 := wW r2.2) dX2_examine_112 cX2_101 (t_X2_turningMove (ss s 10 (s.1 7)) _ e3) (wg_5 _) rfl rfl rfl (Nat.le_of_ble_eq_true rfl) (by decide) ⟨Nat.le_refl _, Nat.le_refl _⟩ rfl rfl ?_
      refine go_istore_n (ls2 := [some (.ref 5), some (.int r2.1), none]) (q := 116) dX2_examine_115 (by decide) rfl rfl ?_
      refine go_iconst (v := 1) (q := 117) dX2_examine_116 (by decide) rfl ?_
      refine go_istore_n (ls2 := [some (.ref 5), some (.int r2.1), some (.int 1)]) (q := 118) dX2_examine_117 (by decide) rfl rfl ?_
      refine go_ls (ls2 := [some (.ref 5), some (.int r2.1), some (.int 1)]) ⟨rfl, rfl, rfl, trivial⟩ ?_
      exact b_X2_examine_118 r gφ r2.2 r2.1 1 h
    · replace h := g_neg c1 h
      refine go_aload_n (q := 19) dX2_examine_18 rfl rfl ?_
      refine go_iload_n (q := 20) dX2_examine_19 rfl rfl ?_
      refine go_iconst (v := 0) (q := 21) dX2_examine_20 (by decide) rfl ?_
      refine go_aload_n (q := 22) dX2_examine_21 rfl rfl ?_
      refine go_iload_n (q := 23) dX2_examine_22 rfl rfl ?_
      obtain ⟨r4, e5, h⟩ := g_bind h
      refine go_callV0 (q := 26) (as := [.int x1]) (rest := [.int 0, .int x1, .ref 5]) (st2 := [.int r4, .int 0, .int x1, .ref 5]) (w2 := wW s) dX2_examine_23 cX2_79 (t_X2_winOf s x1 _ e5) (wg_5 _) rfl rfl rfl (Nat.le_of_ble_eq_true rfl) (by decide) ⟨Nat.le_refl _, Nat.le_refl _⟩ rfl rfl ?_
      obtain ⟨r6, e7, h⟩ := g_bind h
      refine go_callV0 (q := 29) (as := [.int x1, .int 0, .int r4]) (rest := []) (st2 := []) (w2 := wW r6) dX2_examine_26 cX2_83 (t_X2_keep s x1 0 r4 _ e7) (wg_5 _) rfl rfl rfl (Nat.le_of_ble_eq_true rfl) (by decide) ⟨Nat.le_refl _, Nat.le_refl _⟩ rfl rfl ?_
      refine go_aload_n (q := 30) dX2_examine_29 rfl rfl ?_
      refine go_iload_n (q := 31) dX2_examine_30 rfl rfl ?_
      refine go_iconst (v := 1) (q := 32) dX2_examine_31 (by decide) rfl ?_
      refine go_aload_n (q := 33) dX2_examine_32 rfl rfl ?_
      refine go_iload_n (q := 34) dX2_examine_33 rfl rfl ?_
      obtain ⟨r8, e9, h⟩ := g_bind h
      refine go_callV0 (q := 37) (as := [.int x1]) (rest := [.int 1, .int x1, .ref 5]) (st2 := [.int r8, .int 1, .int x1, .ref 5]) (w2 := wW r6) dX2_examine_34 cX2_87 (t_X2_threatOf r6 x1 _ e9) (wg_5 _) rfl rfl rfl (Nat.le_of_ble_eq_true rfl) (by decide) ⟨Nat.le_refl _, Nat.le_refl _⟩ rfl rfl ?_
      obtain ⟨r10, e11, h⟩ := g_bind h
      refine go_callV0 (q := 40) (as := [.int x1, .int 1, .int r8]) (rest := []) (st2 := []) (w2 := wW r10) dX2_examine_37 cX2_83 (t_X2_keep r6 x1 1 r8 _ e11) (wg_5 _) rfl rfl rfl (Nat.le_of_ble_eq_true rfl) (by decide) ⟨Nat.le_refl _, Nat.le_refl _⟩ rfl rfl ?_
      refine go_aload_n (q := 41) dX2_examine_40 rfl rfl ?_
      refine go_iload_n (q := 42) dX2_examine_41 rfl rfl ?_
      refine go_iconst (v := 2) (q := 43) dX2_examine_42 (by decide) rfl ?_
      refine go_aload_n (q := 44) dX2_examine_43 rfl rfl ?_
      refine go_iload_n (q := 45) dX2_examine_44 rfl rfl ?_
      obtain ⟨r12, e13, h⟩ := g_bind h
      refine go_callV0 (q := 48) (as := [.int x1]) (rest := [.int 2, .int x1, .ref 5]) (st2 := [.int r12.1, .int 2, .int x1, .ref 5]) (w2 := wW r12.2) dX2_examine_45 cX2_90 (t_X2_forcedOf r10 x1 _ e13) (wg_5 _) rfl rfl rfl (Nat.le_of_ble_eq_true rfl) (by decide) ⟨Nat.le_refl _, Nat.le_refl _⟩ rfl rfl ?_
      obtain ⟨r14, e15, h⟩ := g_bind h
      refine go_callV0 (q := 51) (as := [.int x1, .int 2, .int r12.1]) (rest := []) (st2 := []) (w2 := wW r14) dX2_examine_48 cX2_83 (t_X2_keep r12.2 x1 2 r12.1 _ e15) (wg_5 _) rfl rfl rfl (Nat.le_of_ble_eq_true rfl) (by decide) ⟨Nat.le_refl _, Nat.le_refl _⟩ rfl rfl ?_
      refine go_aload_n (q := 52) dX2_examine_51 rfl rfl ?_
      refine go_iload_n (q := 53) dX2_examine_52 rfl rfl ?_
      refine go_iconst (v := 3) (q := 54) dX2_examine_53 (by decide) rfl ?_
      refine go_aload_n (q := 55) dX2_examine_54 rfl rfl ?_
      refine go_iload_n (q := 56) dX2_examine_55 rfl rfl ?_
      refine go_iconst (v := 1) (q := 57) dX2_examine_56 (by decide) rfl ?_
      refine go_isub (q := 58) dX2_examine_57 rfl ?_
      refine go_aload_n (q := 59) dX2_examine_58 rfl rfl ?_
      refine go_get (v := .int (r14.1 9)) (q := 62) dX2_examine_59 fX2_37 (wg_5 _) rfl rfl ?_
      obtain ⟨r16, e17, h⟩ := g_bind h
      refine go_callV0 (q := 65) (as := [.int (x1 - 1), .int (r14.1 9)]) (rest := [.int 3, .int x1, .ref 5]) (st2 := [.int r16.1, .int 3, .int x1, .ref 5]) (w2 := wW r16.2) dX2_examine_62 cX2_73 (t_X2_valueBehind r14 (x1 - 1) (r14.1 9) _ e17) (wg_5 _) rfl rfl rfl (Nat.le_of_ble_eq_true rfl) (by decide) ⟨Nat.le_refl _, Nat.le_refl _⟩ rfl rfl ?_
      refine go_aload_n (q := 66) dX2_examine_65 rfl rfl ?_
      refine go_iload_n (q := 67) dX2_examine_66 rfl rfl ?_
      refine go_aload_n (q := 68) dX2_examine_67 rfl rfl ?_
      refine go_get (v := .int (r16.2.1 9)) (q := 71) dX2_examine_68 fX2_37 (wg_5 _) rfl rfl ?_
      refine go_iconst (v := 1) (q := 72) dX2_examine_71 (by decide) rfl ?_
      refine go_isub (q := 73) dX2_examine_72 rfl ?_
      obtain ⟨r18, e19, h⟩ := g_bind h
      refine go_callV0 (q := 76) (as := [.int x1, .int ((r16.2.1 9) - 1)]) (rest := [.int r16.1, .int 3, .int x1, .ref 5]) (st2 := [.int r18.1, .int r16.1, .int 3, .int x1, .ref 5]) (w2 := wW r18.2) dX2_examine_73 cX2_73 (t_X2_valueBehind r16.2 x1 ((r16.2.1 9) - 1) _ e19) (wg_5 _) rfl rfl rfl (Nat.le_of_ble_eq_true rfl) (by decide) ⟨Nat.le_refl _, Nat.le_refl _⟩ rfl rfl ?_
      refine go_iadd (q := 77) dX2_examine_76 rfl ?_
      obtain ⟨r20, e21, h⟩ := g_bind h
      refine go_callV0 (q := 80) (as := [.int x1, .int 3, .int (r16.1 + r18.1)]) (rest := []) (st2 := []) (w2 := wW r20) dX2_examine_77 cX2_83 (t_X2_keep r18.2 x1 3 (r16.1 + r18.1) _ e21) (wg_5 _) rfl rfl rfl (Nat.le_of_ble_eq_true rfl) (by decide) ⟨Nat.le_refl _, Nat.le_refl _⟩ rfl rfl ?_
      refine go_aload_n (q := 81) dX2_examine_80 rfl rfl ?_
      refine go_iload_n (q := 82) dX2_examine_81 rfl rfl ?_
      refine go_iconst (v := 4) (q := 83) dX2_examine_82 (by decide) rfl ?_
      refine go_aload_n (q := 84) dX2_examine_83 rfl rfl ?_
      refine go_iload_n (q := 85) dX2_examine_84 rfl rfl ?_
      obtain ⟨r22, e23, h⟩ := g_bind h
      refine go_callV0 (q := 88) (as := [.int x1]) (rest := [.int 4, .int x1, .ref 5]) (st2 := [.int r22, .int 4, .int x1, .ref 5]) (w2 := wW r20) dX2_examine_85 cX2_93 (t_X2_missedBy r20 x1 _ e23) (wg_5 _) rfl rfl rfl (Nat.le_of_ble_eq_true rfl) (by decide) ⟨Nat.le_refl _, Nat.le_refl _⟩ rfl rfl ?_
      obtain ⟨r24, e25, h⟩ := g_bind h
      refine go_callS0 (q := 91) (as := [.int r22]) (rest := [.int 4, .int x1, .ref 5]) (st2 := [.int r24, .int 4, .int x1, .ref 5]) (w2 := wW r20) dX2_examine_88 cX2_96 (t_J6_bitCount_0f7a4 _ r22 _ e25) rfl rfl (Nat.le_of_ble_eq_true rfl) (by decide) ⟨Nat.le_refl _, Nat.le_refl _⟩ rfl rfl ?_
      obtain ⟨r26, e27, h⟩ := g_bind h
      refine go_callV0 (q := 94) (as := [.int x1, .int 4, .int r24]) (rest := []) (st2 := []) (w2 := wW r26) dX2_examine_91 cX2_83 (t_X2_keep r20 x1 4 r24 _ e27) (wg_5 _) rfl rfl rfl (Nat.le_of_ble_eq_true rfl) (by decide) ⟨Nat.le_refl _, Nat.le_refl _⟩ rfl rfl ?_
      refine go_iinc (v := x1 + 1) (ls2 := [some (.ref 5), some (.int (x1 + 1)), none]) (q := 97) dX2_examine_94 (by decide) rfl rfl rfl rfl ?_
      refine go_goto (tgt := 7) dX2_examine_97 (by decide) ?_
      refine go_ls (ls2 := [some (.ref 5), some (.int (x1 + 1)), none]) ⟨rfl, rfl, trivial⟩ ?_
      exact ih r26 (x1 + 1) h
def f_X2_examine (s : gS) : Option gS :=
  f_X2_examine_7 gφ s ((s.1 10) + 1)
set_option maxHeartbeats 4000000 in
set_option maxRecDepth 100000 in
theorem b_X2_examine (r : gS) : ∀ (s : gS) , f_X2_examine s = some r → Go gTr yX2_examine cX2_examine 3 none 14 0 0 (fun r9 w9 => r9 = none ∧ w9 = wW r) 0 0 (wW s) 0 [some (.ref 5), none, none] [] := by
  intro s h
  rw [f_X2_examine] at h
  refine go_aload_n (q := 1) dX2_examine_0 rfl rfl ?_
  refine go_get (v := .int (s.1 10)) (q := 4) dX2_examine_1 fX2_47 (wg_5 _) rfl rfl ?_
  refine go_iconst (v := 1) (q := 5) dX2_examine_4 (by decide) rfl ?_
  refine go_iadd (q := 6) dX2_examine_5 rfl ?_
  refine go_istore_n (ls2 := [some (.ref 5), some (.int ((s.1 10) + 1)), none]) (q := 7) dX2_examine_6 (by decide) rfl rfl ?_
  refine go_ls (ls2 := [some (.ref 5), some (.int ((s.1 10) + 1)), none]) ⟨rfl, rfl, trivial⟩ ?_
  exact b_X2_examine_7 r gφ s ((s.1 10) + 1) h
theorem t_X2_examine (s : gS) (r : gS) (h : f_X2_examine s = some r) : Cal 14 mX2_examine [.ref 5] (wW s) 0 0 none (wW r) := Cal.of (by decide) (g_cats rfl) (Nat.le_of_ble_eq_true rfl) (b_X2_examine r s h)
def f_X2_amountOf (s : gS) (x1 : Int32) (x2 : Int32) : Option Int32 :=
  if ((x1 * 6) + x2) < 0 then
    some 0
  else
    if 102 ≤ ((x1 * 6) + x2) then
      some 0
    else
      if inB ((x1 * 6) + x2) 102 = true then
        some (s.2 3 ((x1 * 6) + x2).toNatClampNeg)
      else none
set_option maxHeartbeats 4000000 in
set_option maxRecDepth 100000 in
theorem b_X2_amountOf (s : gS) (r : Int32) : ∀ (x1 : Int32) (x2 : Int32) , f_X2_amountOf s x1 x2 = some r → Go gTr yX2_amountOf cX2_amountOf 4 (some .int) 1 0 0 (fun r9 w9 => r9 = some (.int r) ∧ w9 = wW s) 0 0 (wW s) 0 [some (.ref 5), some (.int x1), some (.int x2), none] [] := by
  intro x1 x2 h
  rw [f_X2_amountOf] at h
  refine go_iload_n (q := 1) dX2_amountOf_0 rfl rfl ?_
  refine go_bipush (v := 6) (q := 3) dX2_amountOf_1 (by decide) rfl ?_
  refine go_imul (q := 4) dX2_amountOf_3 rfl ?_
  refine go_iload_n (q := 5) dX2_amountOf_4 rfl rfl ?_
  refine go_iadd (q := 6) dX2_amountOf_5 rfl ?_
  refine go_istore_n (ls2 := [some (.ref 5), some (.int x1), some (.int x2), some (.int ((x1 * 6) + x2))]) (q := 7) dX2_amountOf_6 (by decide) rfl rfl ?_
  refine go_iload_n (q := 8) dX2_amountOf_7 rfl rfl ?_
  refine go_if_lt (tgt := 29) (q := 11) dX2_amountOf_8 (by decide) rfl (fun c1 => ?_) (fun c1 => ?_)
  · replace h := g_pos c1 h
    refine go_iconst (v := 0) (q := 30) dX2_amountOf_29 (by decide) rfl ?_
    cases h
    exact go_iret dX2_amountOf_30 rfl rfl (Nat.le_refl _) (Nat.le_refl _) ⟨rfl, rfl⟩
  · replace h := g_neg c1 h
    refine go_iload_n (q := 12) dX2_amountOf_11 rfl rfl ?_
    refine go_aload_n (q := 13) dX2_amountOf_12 rfl rfl ?_
    refine go_get (v := .ref 8) (q := 16) dX2_amountOf_13 fX2_34 (wg_5 _) rfl rfl ?_
    refine go_alen (v := 102) (q := 17) dX2_amountOf_16 (by decide) (wg_8 _) rfl rfl ?_
    refine go_icmp_ge (tgt := 29) (q := 20) dX2_amountOf_17 (by decide) rfl (fun c2 => ?_) (fun c2 => ?_)
    · replace h := g_pos c2 h
      refine go_iconst (v := 0) (q := 30) dX2_amountOf_29 (by decide) rfl ?_
      cases h
      exact go_iret dX2_amountOf_30 rfl rfl (Nat.le_refl _) (Nat.le_refl _) ⟨rfl, rfl⟩
    · replace h := g_neg c2 h
      refine go_aload_n (q := 21) dX2_amountOf_20 rfl rfl ?_
      refine go_get (v := .ref 8) (q := 24) dX2_amountOf_21 fX2_34 (wg_5 _) rfl rfl ?_
      refine go_iload_n (q := 25) dX2_amountOf_24 rfl rfl ?_
      obtain ⟨g3, h⟩ := g_guard h
      refine go_iald (f := s.2 3) (q := 26) dX2_amountOf_25 (wg_8 _) (inB_in g3) rfl ?_
      refine go_goto (tgt := 30) dX2_amountOf_26 (by decide) ?_
      cases h
      exact go_iret dX2_amountOf_30 rfl rfl (Nat.le_refl _) (Nat.le_refl _) ⟨rfl, rfl⟩
theorem t_X2_amountOf (s : gS) (x1 : Int32) (x2 : Int32) (r : Int32) (h : f_X2_amountOf s x1 x2 = some r) : Cal 1 mX2_amountOf [.ref 5, .int x1, .int x2] (wW s) 0 0 (some (.int r)) (wW s) := Cal.of (by decide) (g_cats rfl) (Nat.le_of_ble_eq_true rfl) (b_X2_amountOf s r x1 x2 h)
def f_X2_worthOf_4 : Nat → gS → Int32 → Int32 → Int32 → Option Int32
  | 0, _, _, _, _ => none
  | φ + 1, s, x1, x2, x3 =>
    if 6 ≤ x3 then
      some x2
    else
      (f_X2_amountOf s x1 x3).bind fun r2 =>
      if inB x3 6 = true then
        f_X2_worthOf_4 φ s x1 (x2 + (r2 * (s.2 1 x3.toNatClampNeg))) (x3 + 1)
      else none
set_option maxHeartbeats 4000000 in
set_option maxRecDepth 100000 in
theorem b_X2_worthOf_4 (s : gS) (r : Int32) : ∀ (φ : Nat) (x1 : Int32) (x2 : Int32) (x3 : Int32) , f_X2_worthOf_4 φ s x1 x2 x3 = some r → Go gTr yX2_worthOf cX2_worthOf 4 (some .int) 2 0 0 (fun r9 w9 => r9 = some (.int r) ∧ w9 = wW s) 0 0 (wW s) 4 [some (.ref 5), some (.int x1), some (.int x2), some (.int x3)] [] := by
  intro φ
  induction φ with
  | zero =>
    intro x1 x2 x3 h
    exact absurd h (by intro h0; cases h0)
  | succ φ ih =>
    intro x1 x2 x3 h
    rw [f_X2_worthOf_4] at h
    refine go_iload_n (q := 5) dX2_worthOf_4 rfl rfl ?_
    refine go_aload_n (q := 6) dX2_worthOf_5 rfl rfl ?_
    refine go_get (v := .ref 6) (q := 9) dX2_worthOf_6 fX2_27 (wg_5 _) rfl rfl ?_
    refine go_alen (v := 6) (q := 10) dX2_worthOf_9 (by decide) (wg_6 _) rfl rfl ?_
    refine go_icmp_ge (tgt := 35) (q := 13) dX2_worthOf_10 (by decide) rfl (fun c1 => ?_) (fun c1 => ?_)
    · replace h := g_pos c1 h
      refine go_iload_n (q := 36) dX2_worthOf_35 rfl rfl ?_
      cases h
      exact go_iret dX2_worthOf_36 rfl rfl (Nat.le_refl _) (Nat.le_refl _) ⟨rfl, rfl⟩
    · replace h := g_neg c1 h
      refine go_iload_n (q := 14) dX2_worthOf_13 rfl rfl ?_
      refine go_aload_n (q := 15) dX2_worthOf_14 rfl rfl ?_
      refine go_iload_n (q := 16) dX2_worthOf_15 rfl rfl ?_
      refine go_iload_n (q := 17) dX2_worthOf_16 rfl rfl ?_
      obtain ⟨r2, e3, h⟩ := g_bind h
      refine go_callV0 (q := 20) (as := [.int x1, .int x3]) (rest := [.int x2]) (st2 := [.int r2, .int x2]) (w2 := wW s) dX2_worthOf_17 cX2_104 (t_X2_amountOf s x1 x3 _ e3) (wg_5 _) rfl rfl rfl (Nat.le_of_ble_eq_true rfl) (by decide) ⟨Nat.le_refl _, Nat.le_refl _⟩ rfl rfl ?_
      refine go_aload_n (q := 21) dX2_worthOf_20 rfl rfl ?_
      refine go_get (v := .ref 6) (q := 24) dX2_worthOf_21 fX2_27 (wg_5 _) rfl rfl ?_
      refine go_iload_n (q := 25) dX2_worthOf_24 rfl rfl ?_
      obtain ⟨g4, h⟩ := g_guard h
      refine go_iald (f := s.2 1) (q := 26) dX2_worthOf_25 (wg_6 _) (inB_in g4) rfl ?_
      refine go_imul (q := 27) dX2_worthOf_26 rfl ?_
      refine go_iadd (q := 28) dX2_worthOf_27 rfl ?_
      refine go_istore_n (ls2 := [some (.ref 5), some (.int x1), some (.int (x2 + (r2 * (s.2 1 x3.toNatClampNeg)))), some (.int x3)]) (q := 29) dX2_worthOf_28 (by decide) rfl rfl ?_
      refine go_iinc (v := x3 + 1) (ls2 := [some (.ref 5), some (.int x1), some (.int (x2 + (r2 * (s.2 1 x3.toNatClampNeg)))), some (.int (x3 + 1))]) (q := 32) dX2_worthOf_29 (by decide) rfl rfl rfl rfl ?_
      refine go_goto (tgt := 4) dX2_worthOf_32 (by decide) ?_
      refine go_ls (ls2 := [some (.ref 5), some (.int x1), some (.int (x2 + (r2 * (s.2 1 x3.toNatClampNeg)))), some (.int (x3 + 1))]) ⟨rfl, rfl, rfl, rfl, trivial⟩ ?_
      exact ih x1 (x2 + (r2 * (s.2 1 x3.toNatClampNeg))) (x3 + 1) h
def f_X2_worthOf (s : gS) (x1 : Int32) : Option Int32 :=
  f_X2_worthOf_4 gφ s x1 0 0
set_option maxHeartbeats 4000000 in
set_option maxRecDepth 100000 in
theorem b_X2_worthOf (s : gS) (r : Int32) : ∀ (x1 : Int32) , f_X2_worthOf s x1 = some r → Go gTr yX2_worthOf cX2_worthOf 4 (some .int) 2 0 0 (fun r9 w9 => r9 = some (.int r) ∧ w9 = wW s) 0 0 (wW s) 0 [some (.ref 5), some (.int x1), none, none] [] := by
  intro x1 h
  rw [f_X2_worthOf] at h
  refine go_iconst (v := 0) (q := 1) dX2_worthOf_0 (by decide) rfl ?_
  refine go_istore_n (ls2 := [some (.ref 5), some (.int x1), some (.int 0), none]) (q := 2) dX2_worthOf_1 (by decide) rfl rfl ?_
  refine go_iconst (v := 0) (q := 3) dX2_worthOf_2 (by decide) rfl ?_
  refine go_istore_n (ls2 := [some (.ref 5), some (.int x1), some (.int 0), some (.int 0)]) (q := 4) dX2_worthOf_3 (by decide) rfl rfl ?_
  refine go_ls (ls2 := [some (.ref 5), some (.int x1), some (.int 0), some (.int 0)]) ⟨rfl, rfl, rfl, rfl, trivial⟩ ?_
  exact b_X2_worthOf_4 s r gφ x1 0 0 h
theorem t_X2_worthOf (s : gS) (x1 : Int32) (r : Int32) (h : f_X2_worthOf s x1 = some r) : Cal 2 mX2_worthOf [.ref 5, .int x1] (wW s) 0 0 (some (.int r)) (wW s) := Cal.of (by decide) (g_cats rfl) (Nat.le_of_ble_eq_true rfl) (b_X2_worthOf s r x1 h)
