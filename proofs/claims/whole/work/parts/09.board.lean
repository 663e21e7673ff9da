def gφ : Nat := 1000000000000
theorem g_pos {c : Prop} [Decidable c] {β : Type} {x y : Option β} {r : β} (hc : c) (h : (if c then x else y) = some r) : x = some r := by rw [if_pos hc] at h; exact h
theorem g_neg {c : Prop} [Decidable c] {β : Type} {x y : Option β} {r : β} (hc : ¬ c) (h : (if c then x else y) = some r) : y = some r := by rw [if_neg hc] at h; exact h
theorem g_cats {l : List Value} (h : l.all (fun v => v.category == 1) = true) : ∀ v ∈ l, v.category = 1 := fun v hv => by simpa using List.all_eq_true.mp h v hv
def f_X0_bitAt_29 (s : gS) (x1 : Int32) (x2 : Int32) (t0 : Int32) : Option Int32 :=
  if t0 = 0 then
    some 0
  else
    some (1 <<< (((x2 * 5) + x1) &&& 31))
set_option maxHeartbeats 4000000 in
set_option maxRecDepth 100000 in
theorem b_X0_bitAt_29 (s : gS) (r : Int32) : ∀ (x1 : Int32) (x2 : Int32) (t0 : Int32) , f_X0_bitAt_29 s x1 x2 t0 = some r → Go gTr yX0_bitAt cX0_bitAt 4 (some .int) 1 0 0 (fun r9 w9 => r9 = some (.int r) ∧ w9 = wW s) 0 0 (wW s) 29 [none, some (.int x1), some (.int x2), none] [.int t0] := by
  intro x1 x2 t0 h
  rw [f_X0_bitAt_29] at h
  refine go_istore_n (ls2 := [none, some (.int x1), some (.int x2), some (.int t0)]) (q := 30) dX0_bitAt_29 (by decide) rfl rfl ?_
  refine go_iload_n (q := 31) dX0_bitAt_30 rfl rfl ?_
  refine go_if_eq (tgt := 44) (q := 34) dX0_bitAt_31 (by decide) rfl (fun c1 => ?_) (fun c1 => ?_)
  · replace h := g_pos c1 h
    refine go_iconst (v := 0) (q := 45) dX0_bitAt_44 (by decide) rfl ?_
    cases h
    exact go_iret dX0_bitAt_45 rfl rfl (Nat.le_refl _) (Nat.le_refl _) ⟨rfl, rfl⟩
  · replace h := g_neg c1 h
    refine go_iconst (v := 1) (q := 35) dX0_bitAt_34 (by decide) rfl ?_
    refine go_iload_n (q := 36) dX0_bitAt_35 rfl rfl ?_
    refine go_iconst (v := 5) (q := 37) dX0_bitAt_36 (by decide) rfl ?_
    refine go_imul (q := 38) dX0_bitAt_37 rfl ?_
    refine go_iload_n (q := 39) dX0_bitAt_38 rfl rfl ?_
    refine go_iadd (q := 40) dX0_bitAt_39 rfl ?_
    refine go_ishl (q := 41) dX0_bitAt_40 rfl ?_
    refine go_goto (tgt := 45) dX0_bitAt_41 (by decide) ?_
    cases h
    exact go_iret dX0_bitAt_45 rfl rfl (Nat.le_refl _) (Nat.le_refl _) ⟨rfl, rfl⟩
def f_X0_bitAt_28 (s : gS) (x1 : Int32) (x2 : Int32) : Option Int32 :=
  f_X0_bitAt_29 s x1 x2 0
set_option maxHeartbeats 4000000 in
set_option maxRecDepth 100000 in
theorem b_X0_bitAt_28 (s : gS) (r : Int32) : ∀ (x1 : Int32) (x2 : Int32) , f_X0_bitAt_28 s x1 x2 = some r → Go gTr yX0_bitAt cX0_bitAt 4 (some .int) 1 0 0 (fun r9 w9 => r9 = some (.int r) ∧ w9 = wW s) 0 0 (wW s) 28 [none, some (.int x1), some (.int x2), none] [] := by
  intro x1 x2 h
  rw [f_X0_bitAt_28] at h
  refine go_iconst (v := 0) (q := 29) dX0_bitAt_28 (by decide) rfl ?_
  refine go_ls (ls2 := [none, some (.int x1), some (.int x2), none]) ⟨rfl, rfl, trivial⟩ ?_
  exact b_X0_bitAt_29 s r x1 x2 0 h
def f_X0_bitAt (s : gS) (x1 : Int32) (x2 : Int32) : Option Int32 :=
  if x1 < 0 then
    f_X0_bitAt_28 s x1 x2
  else
    if (s.1 0) ≤ x1 then
      f_X0_bitAt_28 s x1 x2
    else
      if x2 < 0 then
        f_X0_bitAt_28 s x1 x2
      else
        if (s.1 1) ≤ x2 then
          f_X0_bitAt_28 s x1 x2
        else
          f_X0_bitAt_29 s x1 x2 1
set_option maxHeartbeats 4000000 in
set_option maxRecDepth 100000 in
theorem b_X0_bitAt (s : gS) (r : Int32) : ∀ (x1 : Int32) (x2 : Int32) , f_X0_bitAt s x1 x2 = some r → Go gTr yX0_bitAt cX0_bitAt 4 (some .int) 1 0 0 (fun r9 w9 => r9 = some (.int r) ∧ w9 = wW s) 0 0 (wW s) 0 [some (.ref 1), some (.int x1), some (.int x2), none] [] := by
  intro x1 x2 h
  rw [f_X0_bitAt] at h
  refine go_iload_n (q := 1) dX0_bitAt_0 rfl rfl ?_
  refine go_if_lt (tgt := 28) (q := 4) dX0_bitAt_1 (by decide) rfl (fun c1 => ?_) (fun c1 => ?_)
  · replace h := g_pos c1 h
    refine go_ls (ls2 := [none, some (.int x1), some (.int x2), none]) ⟨rfl, rfl, trivial⟩ ?_
    exact b_X0_bitAt_28 s r x1 x2 h
  · replace h := g_neg c1 h
    refine go_iload_n (q := 5) dX0_bitAt_4 rfl rfl ?_
    refine go_aload_n (q := 6) dX0_bitAt_5 rfl rfl ?_
    refine go_get (v := .int (s.1 0)) (q := 9) dX0_bitAt_6 fX0_25 (wg_1 _) rfl rfl ?_
    refine go_icmp_ge (tgt := 28) (q := 12) dX0_bitAt_9 (by decide) rfl (fun c2 => ?_) (fun c2 => ?_)
    · replace h := g_pos c2 h
      refine go_ls (ls2 := [none, some (.int x1), some (.int x2), none]) ⟨rfl, rfl, trivial⟩ ?_
      exact b_X0_bitAt_28 s r x1 x2 h
    · replace h := g_neg c2 h
      refine go_iload_n (q := 13) dX0_bitAt_12 rfl rfl ?_
      refine go_if_lt (tgt := 28) (q := 16) dX0_bitAt_13 (by decide) rfl (fun c3 => ?_) (fun c3 => ?_)
      · replace h := g_pos c3 h
        refine go_ls (ls2 := [none, some (.int x1), some (.int x2), none]) ⟨rfl, rfl, trivial⟩ ?_
        exact b_X0_bitAt_28 s r x1 x2 h
      · replace h := g_neg c3 h
        refine go_iload_n (q := 17) dX0_bitAt_16 rfl rfl ?_
        refine go_aload_n (q := 18) dX0_bitAt_17 rfl rfl ?_
        refine go_get (v := .int (s.1 1)) (q := 21) dX0_bitAt_18 fX0_29 (wg_1 _) rfl rfl ?_
        refine go_icmp_ge (tgt := 28) (q := 24) dX0_bitAt_21 (by decide) rfl (fun c4 => ?_) (fun c4 => ?_)
        · replace h := g_pos c4 h
          refine go_ls (ls2 := [none, some (.int x1), some (.int x2), none]) ⟨rfl, rfl, trivial⟩ ?_
          exact b_X0_bitAt_28 s r x1 x2 h
        · replace h := g_neg c4 h
          refine go_iconst (v := 1) (q := 25) dX0_bitAt_24 (by decide) rfl ?_
          refine go_goto (tgt := 29) dX0_bitAt_25 (by decide) ?_
          refine go_ls (ls2 := [none, some (.int x1), some (.int x2), none]) ⟨rfl, rfl, trivial⟩ ?_
          exact b_X0_bitAt_29 s r x1 x2 1 h
theorem t_X0_bitAt (s : gS) (x1 : Int32) (x2 : Int32) (r : Int32) (h : f_X0_bitAt s x1 x2 = some r) : Cal 1 mX0_bitAt [.ref 1, .int x1, .int x2] (wW s) 0 0 (some (.int r)) (wW s) := Cal.of (by decide) (g_cats rfl) (Nat.le_of_ble_eq_true rfl) (b_X0_bitAt s r x1 x2 h)
def f_X0_bitOf_8 : Nat → gS → Int32 → Int32 → Option Int32
  | 0, _, _, _ => none
  | φ + 1, s, x1, x2 =>
    if (s.1 1) ≤ x2 then
      some 0
    else
      if (s.1 0) ≤ (x1 - (x2 * (s.1 0))) then
        f_X0_bitOf_8 φ s x1 (x2 + 1)
      else
        (f_X0_bitAt s (x1 - (x2 * (s.1 0))) x2).bind fun r3 =>
        some r3
set_option maxHeartbeats 4000000 in
set_option maxRecDepth 100000 in
theorem b_X0_bitOf_8 (s : gS) (r : Int32) : ∀ (φ : Nat) (x1 : Int32) (x2 : Int32) , f_X0_bitOf_8 φ s x1 x2 = some r → Go gTr yX0_bitOf cX0_bitOf 4 (some .int) 2 0 0 (fun r9 w9 => r9 = some (.int r) ∧ w9 = wW s) 0 0 (wW s) 8 [some (.ref 1), some (.int x1), some (.int x2), none] [] := by
  intro φ
  induction φ with
  | zero =>
    intro x1 x2 h
    exact absurd h (by intro h0; cases h0)
  | succ φ ih =>
    intro x1 x2 h
    rw [f_X0_bitOf_8] at h
    refine go_iload_n (q := 9) dX0_bitOf_8 rfl rfl ?_
    refine go_aload_n (q := 10) dX0_bitOf_9 rfl rfl ?_
    refine go_get (v := .int (s.1 1)) (q := 13) dX0_bitOf_10 fX0_29 (wg_1 _) rfl rfl ?_
    refine go_icmp_ge (tgt := 46) (q := 16) dX0_bitOf_13 (by decide) rfl (fun c1 => ?_) (fun c1 => ?_)
    · replace h := g_pos c1 h
      refine go_iconst (v := 0) (q := 47) dX0_bitOf_46 (by decide) rfl ?_
      cases h
      exact go_iret dX0_bitOf_47 rfl rfl (Nat.le_refl _) (Nat.le_refl _) ⟨rfl, rfl⟩
    · replace h := g_neg c1 h
      refine go_iload_n (q := 17) dX0_bitOf_16 rfl rfl ?_
      refine go_iload_n (q := 18) dX0_bitOf_17 rfl rfl ?_
      refine go_aload_n (q := 19) dX0_bitOf_18 rfl rfl ?_
      refine go_get (v := .int (s.1 0)) (q := 22) dX0_bitOf_19 fX0_25 (wg_1 _) rfl rfl ?_
      refine go_imul (q := 23) dX0_bitOf_22 rfl ?_
      refine go_isub (q := 24) dX0_bitOf_23 rfl ?_
      refine go_istore_n (ls2 := [some (.ref 1), some (.int x1), some (.int x2), some (.int (x1 - (x2 * (s.1 0))))]) (q := 25) dX0_bitOf_24 (by decide) rfl rfl ?_
      refine go_iload_n (q := 26) dX0_bitOf_25 rfl rfl ?_
      refine go_aload_n (q := 27) dX0_bitOf_26 rfl rfl ?_
      refine go_get (v := .int (s.1 0)) (q := 30) dX0_bitOf_27 fX0_25 (wg_1 _) rfl rfl ?_
      refine go_icmp_ge (tgt := 40) (q := 33) dX0_bitOf_30 (by decide) rfl (fun c2 => ?_) (fun c2 => ?_)
      · replace h := g_pos c2 h
        refine go_iinc (v := x2 + 1) (ls2 := [some (.ref 1), some (.int x1), some (.int (x2 + 1)), some (.int (x1 - (x2 * (s.1 0))))]) (q := 43) dX0_bitOf_40 (by decide) rfl rfl rfl rfl ?_
        refine go_goto (tgt := 8) dX0_bitOf_43 (by decide) ?_
        refine go_ls (ls2 := [some (.ref 1), some (.int x1), some (.int (x2 + 1)), none]) ⟨rfl, rfl, rfl, trivial⟩ ?_
        exact ih x1 (x2 + 1) h
      · replace h := g_neg c2 h
        refine go_aload_n (q := 34) dX0_bitOf_33 rfl rfl ?_
        refine go_iload_n (q := 35) dX0_bitOf_34 rfl rfl ?_
        refine go_iload_n (q := 36) dX0_bitOf_35 rfl rfl ?_
        obtain ⟨r3, e4, h⟩ := g_bind h
        refine go_callV0 (q := 39) (as := [.int (x1 - (x2 * (s.1 0))), .int x2]) (rest := []) (st2 := [.int r3]) (w2 := wW s) dX0_bitOf_36 cX0_48 (t_X0_bitAt s (x1 - (x2 * (s.1 0))) x2 _ e4) (wg_1 _) rfl rfl rfl (Nat.le_of_ble_eq_true rfl) (by decide) ⟨Nat.le_refl _, Nat.le_refl _⟩ rfl rfl ?_
        cases h
        exact go_iret dX0_bitOf_39 rfl rfl (Nat.le_refl _) (Nat.le_refl _) ⟨rfl, rfl⟩
def f_X0_bitOf (s : gS) (x1 : Int32) : Option Int32 :=
  if 0 ≤ x1 then
    f_X0_bitOf_8 gφ s x1 0
  else
    some 0
set_option maxHeartbeats 4000000 in
set_option maxRecDepth 100000 in
theorem b_X0_bitOf (s : gS) (r : Int32) : ∀ (x1 : Int32) , f_X0_bitOf s x1 = some r → Go gTr yX0_bitOf cX0_bitOf 4 (some .int) 2 0 0 (fun r9 w9 => r9 = some (.int r) ∧ w9 = wW s) 0 0 (wW s) 0 [some (.ref 1), some (.int x1), none, none] [] := by
  intro x1 h
  rw [f_X0_bitOf] at h
  refine go_iload_n (q := 1) dX0_bitOf_0 rfl rfl ?_
  refine go_if_ge (tgt := 6) (q := 4) dX0_bitOf_1 (by decide) rfl (fun c1 => ?_) (fun c1 => ?_)
  · replace h := g_pos c1 h
    refine go_iconst (v := 0) (q := 7) dX0_bitOf_6 (by decide) rfl ?_
    refine go_istore_n (ls2 := [some (.ref 1), some (.int x1), some (.int 0), none]) (q := 8) dX0_bitOf_7 (by decide) rfl rfl ?_
    refine go_ls (ls2 := [some (.ref 1), some (.int x1), some (.int 0), none]) ⟨rfl, rfl, rfl, trivial⟩ ?_
    exact b_X0_bitOf_8 s r gφ x1 0 h
  · replace h := g_neg c1 h
    refine go_iconst (v := 0) (q := 5) dX0_bitOf_4 (by decide) rfl ?_
    cases h
    exact go_iret dX0_bitOf_5 rfl rfl (Nat.le_refl _) (Nat.le_refl _) ⟨rfl, rfl⟩
theorem t_X0_bitOf (s : gS) (x1 : Int32) (r : Int32) (h : f_X0_bitOf s x1 = some r) : Cal 2 mX0_bitOf [.ref 1, .int x1] (wW s) 0 0 (some (.int r)) (wW s) := Cal.of (by decide) (g_cats rfl) (Nat.le_of_ble_eq_true rfl) (b_X0_bitOf s r x1 h)
def f_J6_bitCount_0f7a4 (x0 : Int32) : Option Int32 :=
  some ((((((((x0 - ((((x0 : Int32).toUInt32 >>> ((1 : Int32).toUInt32 &&& Int32.toUInt32 31)).toInt32) &&& 1431655765)) &&& 858993459) + (((((x0 - ((((x0 : Int32).toUInt32 >>> ((1 : Int32).toUInt32 &&& Int32.toUInt32 31)).toInt32) &&& 1431655765)) : Int32).toUInt32 >>> ((2 : Int32).toUInt32 &&& Int32.toUInt32 31)).toInt32) &&& 858993459)) + ((((((x0 - ((((x0 : Int32).toUInt32 >>> ((1 : Int32).toUInt32 &&& Int32.toUInt32 31)).toInt32) &&& 1431655765)) &&& 858993459) + (((((x0 - ((((x0 : Int32).toUInt32 >>> ((1 : Int32).toUInt32 &&& Int32.toUInt32 31)).toInt32) &&& 1431655765)) : Int32).toUInt32 >>> ((2 : Int32).toUInt32 &&& Int32.toUInt32 31)).toInt32) &&& 858993459)) : Int32).toUInt32 >>> ((4 : Int32).toUInt32 &&& Int32.toUInt32 31)).toInt32)) &&& 252645135) + ((((((((x0 - ((((x0 : Int32).toUInt32 >>> ((1 : Int32).toUInt32 &&& Int32.toUInt32 31)).toInt32) &&& 1431655765)) &&& 858993459) + (((((x0 - ((((x0 : Int32).toUInt32 >>> ((1 : Int32).toUInt32 &&& Int32.toUInt32 31)).toInt32) &&& 1431655765)) : Int32).toUInt32 >>> ((2 : Int32).toUInt32 &&& Int32.toUInt32 31)).toInt32) &&& 858993459)) + ((((((x0 - ((((x0 : Int32).toUInt32 >>> ((1 : Int32).toUInt32 &&& Int32.toUInt32 31)).toInt32) &&& 1431655765)) &&& 858993459) + (((((x0 - ((((x0 : Int32).toUInt32 >>> ((1 : Int32).toUInt32 &&& Int32.toUInt32 31)).toInt32) &&& 1431655765)) : Int32).toUInt32 >>> ((2 : Int32).toUInt32 &&& Int32.toUInt32 31)).toInt32) &&& 858993459)) : Int32).toUInt32 >>> ((4 : Int32).toUInt32 &&& Int32.toUInt32 31)).toInt32)) &&& 252645135) : Int32).toUInt32 >>> ((8 : Int32).toUInt32 &&& Int32.toUInt32 31)).toInt32)) + (((((((((x0 - ((((x0 : Int32).toUInt32 >>> ((1 : Int32).toUInt32 &&& Int32.toUInt32 31)).toInt32) &&& 1431655765)) &&& 858993459) + (((((x0 - ((((x0 : Int32).toUInt32 >>> ((1 : Int32).toUInt32 &&& Int32.toUInt32 31)).toInt32) &&& 1431655765)) : Int32).toUInt32 >>> ((2 : Int32).toUInt32 &&& Int32.toUInt32 31)).toInt32) &&& 858993459)) + ((((((x0 - ((((x0 : Int32).toUInt32 >>> ((1 : Int32).toUInt32 &&& Int32.toUInt32 31)).toInt32) &&& 1431655765)) &&& 858993459) + (((((x0 - ((((x0 : Int32).toUInt32 >>> ((1 : Int32).toUInt32 &&& Int32.toUInt32 31)).toInt32) &&& 1431655765)) : Int32).toUInt32 >>> ((2 : Int32).toUInt32 &&& Int32.toUInt32 31)).toInt32) &&& 858993459)) : Int32).toUInt32 >>> ((4 : Int32).toUInt32 &&& Int32.toUInt32 31)).toInt32)) &&& 252645135) + ((((((((x0 - ((((x0 : Int32).toUInt32 >>> ((1 : Int32).toUInt32 &&& Int32.toUInt32 31)).toInt32) &&& 1431655765)) &&& 858993459) + (((((x0 - ((((x0 : Int32).toUInt32 >>> ((1 : Int32).toUInt32 &&& Int32.toUInt32 31)).toInt32) &&& 1431655765)) : Int32).toUInt32 >>> ((2 : Int32).toUInt32 &&& Int32.toUInt32 31)).toInt32) &&& 858993459)) + ((((((x0 - ((((x0 : Int32).toUInt32 >>> ((1 : Int32).toUInt32 &&& Int32.toUInt32 31)).toInt32) &&& 1431655765)) &&& 858993459) + (((((x0 - ((((x0 : Int32).toUInt32 >>> ((1 : Int32).toUInt32 &&& Int32.toUInt32 31)).toInt32) &&& 1431655765)) : Int32).toUInt32 >>> ((2 : Int32).toUInt32 &&& Int32.toUInt32 31)).toInt32) &&& 858993459)) : Int32).toUInt32 >>> ((4 : Int32).toUInt32 &&& Int32.toUInt32 31)).toInt32)) &&& 252645135) : Int32).toUInt32 >>> ((8 : Int32).toUInt32 &&& Int32.toUInt32 31)).toInt32)) : Int32).toUInt32 >>> ((16 : Int32).toUInt32 &&& Int32.toUInt32 31)).toInt32)) &&& 63)
set_option maxHeartbeats 4000000 in
set_option maxRecDepth 100000 in
theorem b_J6_bitCount_0f7a4 (w : List va_E) (r : Int32) : ∀ (x0 : Int32) , f_J6_bitCount_0f7a4 x0 = some r → Go gTr yJ6_bitCount_0f7a4 cJ6_bitCount_0f7a4 1 (some .int) 1 0 0 (fun r9 w9 => r9 = some (.int r) ∧ w9 = w) 0 0 w 0 [some (.int x0)] [] := by
  intro x0 h
  rw [f_J6_bitCount_0f7a4] at h
  refine go_iload_n (q := 1) dJ6_bitCount_0f7a4_0 rfl rfl ?_
  refine go_iload_n (q := 2) dJ6_bitCount_0f7a4_1 rfl rfl ?_
  refine go_iconst (v := 1) (q := 3) dJ6_bitCount_0f7a4_2 (by decide) rfl ?_
  refine go_iushr (q := 4) dJ6_bitCount_0f7a4_3 rfl ?_
  refine go_ldcw (q := 7) dJ6_bitCount_0f7a4_4 ckJ6_265 rfl ?_
  refine go_iand (q := 8) dJ6_bitCount_0f7a4_7 rfl ?_
  refine go_isub (q := 9) dJ6_bitCount_0f7a4_8 rfl ?_
  refine go_istore_n (ls2 := [some (.int (x0 - ((((x0 : Int32).toUInt32 >>> ((1 : Int32).toUInt32 &&& Int32.toUInt32 31)).toInt32) &&& 1431655765)))]) (q := 10) dJ6_bitCount_0f7a4_9 (by decide) rfl rfl ?_
  refine go_iload_n (q := 11) dJ6_bitCount_0f7a4_10 rfl rfl ?_
  refine go_ldcw (q := 14) dJ6_bitCount_0f7a4_11 ckJ6_266 rfl ?_
  refine go_iand (q := 15) dJ6_bitCount_0f7a4_14 rfl ?_
  refine go_iload_n (q := 16) dJ6_bitCount_0f7a4_15 rfl rfl ?_
  refine go_iconst (v := 2) (q := 17) dJ6_bitCount_0f7a4_16 (by decide) rfl ?_
  refine go_iushr (q := 18) dJ6_bitCount_0f7a4_17 rfl ?_
  refine go_ldcw (q := 21) dJ6_bitCount_0f7a4_18 ckJ6_266 rfl ?_
  refine go_iand (q := 22) dJ6_bitCount_0f7a4_21 rfl ?_
  refine go_iadd (q := 23) dJ6_bitCount_0f7a4_22 rfl ?_
  refine go_istore_n (ls2 := [some (.int (((x0 - ((((x0 : Int32).toUInt32 >>> ((1 : Int32).toUInt32 &&& Int32.toUInt32 31)).toInt32) &&& 1431655765)) &&& 858993459) + (((((x0 - ((((x0 : Int32).toUInt32 >>> ((1 : Int32).toUInt32 &&& Int32.toUInt32 31)).toInt32) &&& 1431655765)) : Int32).toUInt32 >>> ((2 : Int32).toUInt32 &&& Int32.toUInt32 31)).toInt32) &&& 858993459)))]) (q := 24) dJ6_bitCount_0f7a4_23 (by decide) rfl rfl ?_
  refine go_iload_n (q := 25) dJ6_bitCount_0f7a4_24 rfl rfl ?_
  refine go_iload_n (q := 26) dJ6_bitCount_0f7a4_25 rfl rfl ?_
  refine go_iconst (v := 4) (q := 27) dJ6_bitCount_0f7a4_26 (by decide) rfl ?_
  refine go_iushr (q := 28) dJ6_bitCount_0f7a4_27 rfl ?_
  refine go_iadd (q := 29) dJ6_bitCount_0f7a4_28 rfl ?_
  refine go_ldcw (q := 32) dJ6_bitCount_0f7a4_29 ckJ6_267 rfl ?_
  refine go_iand (q := 33) dJ6_bitCount_0f7a4_32 rfl ?_
  refine go_istore_n (ls2 := [some (.int (((((x0 - ((((x0 : Int32).toUInt32 >>> ((1 : Int32).toUInt32 &&& Int32.toUInt32 31)).toInt32) &&& 1431655765)) &&& 858993459) + (((((x0 - ((((x0 : Int32).toUInt32 >>> ((1 : Int32).toUInt32 &&& Int32.toUInt32 31)).toInt32) &&& 1431655765)) : Int32).toUInt32 >>> ((2 : Int32).toUInt32 &&& Int32.toUInt32 31)).toInt32) &&& 858993459)) + ((((((x0 - ((((x0 : Int32).toUInt32 >>> ((1 : Int32).toUInt32 &&& Int32.toUInt32 31)).toInt32) &&& 1431655765)) &&& 858993459) + (((((x0 - ((((x0 : Int32).toUInt32 >>> ((1 : Int32).toUInt32 &&& Int32.toUInt32 31)).toInt32) &&& 1431655765)) : Int32).toUInt32 >>> ((2 : Int32).toUInt32 &&& Int32.toUInt32 31)).toInt32) &&& 858993459)) : Int32).toUInt32 >>> ((4 : Int32).toUInt32 &&& Int32.toUInt32 31)).toInt32)) &&& 252645135))]) (q := 34) dJ6_bitCount_0f7a4_33 (by decide) rfl rfl ?_
  refine go_iload_n (q := 35) dJ6_bitCount_0f7a4_34 rfl rfl ?_
  refine go_iload_n (q := 36) dJ6_bitCount_0f7a4_35 rfl rfl ?_
  refine go_bipush (v := 8) (q := 38) dJ6_bitCount_0f7a4_36 (by decide) rfl ?_
  refine go_iushr (q := 39) dJ6_bitCount_0f7a4_38 rfl ?_
  refine go_iadd (q := 40) dJ6_bitCount_0f7a4_39 rfl ?_
  refine go_istore_n (ls2 := [some (.int ((((((x0 - ((((x0 : Int32).toUInt32 >>> ((1 : Int32).toUInt32 &&& Int32.toUInt32 31)).toInt32) &&& 1431655765)) &&& 858993459) + (((((x0 - ((((x0 : Int32).toUInt32 >>> ((1 : Int32).toUInt32 &&& Int32.toUInt32 31)).toInt32) &&& 1431655765)) : Int32).toUInt32 >>> ((2 : Int32).toUInt32 &&& Int32.toUInt32 31)).toInt32) &&& 858993459)) + ((((((x0 - ((((x0 : Int32).toUInt32 >>> ((1 : Int32).toUInt32 &&& Int32.toUInt32 31)).toInt32) &&& 1431655765)) &&& 858993459) + (((((x0 - ((((x0 : Int32).toUInt32 >>> ((1 : Int32).toUInt32 &&& Int32.toUInt32 31)).toInt32) &&& 1431655765)) : Int32).toUInt32 >>> ((2 : Int32).toUInt32 &&& Int32.toUInt32 31)).toInt32) &&& 858993459)) : Int32).toUInt32 >>> ((4 : Int32).toUInt32 &&& Int32.toUInt32 31)).toInt32)) &&& 252645135) + ((((((((x0 - ((((x0 : Int32).toUInt32 >>> ((1 : Int32).toUInt32 &&& Int32.toUInt32 31)).toInt32) &&& 1431655765)) &&& 858993459) + (((((x0 - ((((x0 : Int32).toUInt32 >>> ((1 : Int32).toUInt32 &&& Int32.toUInt32 31)).toInt32) &&& 1431655765)) : Int32).toUInt32 >>> ((2 : Int32).toUInt32 &&& Int32.toUInt32 31)).toInt32) &&& 858993459)) + ((((((x0 - ((((x0 : Int32).toUInt32 >>> ((1 : Int32).toUInt32 &&& Int32.toUInt32 31)).toInt32) &&& 1431655765)) &&& 858993459) + (((((x0 - ((((x0 : Int32).toUInt32 >>> ((1 : Int32).toUInt32 &&& Int32.toUInt32 31)).toInt32) &&& 1431655765)) : Int32).toUInt32 >>> ((2 : Int32).toUInt32 &&& Int32.toUInt32 31)).toInt32) &&& 858993459)) : Int32).toUInt32 >>> ((4 : Int32).toUInt32 &&& Int32.toUInt32 31)).toInt32)) &&& 252645135) : Int32).toUInt32 >>> ((8 : Int32).toUInt32 &&& Int32.toUInt32 31)).toInt32)))]) (q := 41) dJ6_bitCount_0f7a4_40 (by decide) rfl rfl ?_
  refine go_iload_n (q := 42) dJ6_bitCount_0f7a4_41 rfl rfl ?_
  refine go_iload_n (q := 43) dJ6_bitCount_0f7a4_42 rfl rfl ?_
  refine go_bipush (v := 16) (q := 45) dJ6_bitCount_0f7a4_43 (by decide) rfl ?_
  refine go_iushr (q := 46) dJ6_bitCount_0f7a4_45 rfl ?_
  refine go_iadd (q := 47) dJ6_bitCount_0f7a4_46 rfl ?_
  refine go_istore_n (ls2 := [some (.int (((((((x0 - ((((x0 : Int32).toUInt32 >>> ((1 : Int32).toUInt32 &&& Int32.toUInt32 31)).toInt32) &&& 1431655765)) &&& 858993459) + (((((x0 - ((((x0 : Int32).toUInt32 >>> ((1 : Int32).toUInt32 &&& Int32.toUInt32 31)).toInt32) &&& 1431655765)) : Int32).toUInt32 >>> ((2 : Int32).toUInt32 &&& Int32.toUInt32 31)).toInt32) &&& 858993459)) + ((((((x0 - ((((x0 : Int32).toUInt32 >>> ((1 : Int32).toUInt32 &&& Int32.toUInt32 31)).toInt32) &&& 1431655765)) &&& 858993459) + (((((x0 - ((((x0 : Int32).toUInt32 >>> ((1 : Int32).toUInt32 &&& Int32.toUInt32 31)).toInt32) &&& 1431655765)) : Int32).toUInt32 >>> ((2 : Int32).toUInt32 &&& Int32.toUInt32 31)).toInt32) &&& 858993459)) : Int32).toUInt32 >>> ((4 : Int32).toUInt32 &&& Int32.toUInt32 31)).toInt32)) &&& 252645135) + ((((((((x0 - ((((x0 : Int32).toUInt32 >>> ((1 : Int32).toUInt32 &&& Int32.toUInt32 31)).toInt32) &&& 1431655765)) &&& 858993459) + (((((x0 - ((((x0 : Int32).toUInt32 >>> ((1 : Int32).toUInt32 &&& Int32.toUInt32 31)).toInt32) &&& 1431655765)) : Int32).toUInt32 >>> ((2 : Int32).toUInt32 &&& Int32.toUInt32 31)).toInt32) &&& 858993459)) + ((((((x0 - ((((x0 : Int32).toUInt32 >>> ((1 : Int32).toUInt32 &&& Int32.toUInt32 31)).toInt32) &&& 1431655765)) &&& 858993459) + (((((x0 - ((((x0 : Int32).toUInt32 >>> ((1 : Int32).toUInt32 &&& Int32.toUInt32 31)).toInt32) &&& 1431655765)) : Int32).toUInt32 >>> ((2 : Int32).toUInt32 &&& Int32.toUInt32 31)).toInt32) &&& 858993459)) : Int32).toUInt32 >>> ((4 : Int32).toUInt32 &&& Int32.toUInt32 31)).toInt32)) &&& 252645135) : Int32).toUInt32 >>> ((8 : Int32).toUInt32 &&& Int32.toUInt32 31)).toInt32)) + (((((((((x0 - ((((x0 : Int32).toUInt32 >>> ((1 : Int32).toUInt32 &&& Int32.toUInt32 31)).toInt32) &&& 1431655765)) &&& 858993459) + (((((x0 - ((((x0 : Int32).toUInt32 >>> ((1 : Int32).toUInt32 &&& Int32.toUInt32 31)).toInt32) &&& 1431655765)) : Int32).toUInt32 >>> ((2 : Int32).toUInt32 &&& Int32.toUInt32 31)).toInt32) &&& 858993459)) + ((((((x0 - ((((x0 : Int32).toUInt32 >>> ((1 : Int32).toUInt32 &&& Int32.toUInt32 31)).toInt32) &&& 1431655765)) &&& 858993459) + (((((x0 - ((((x0 : Int32).toUInt32 >>> ((1 : Int32).toUInt32 &&& Int32.toUInt32 31)).toInt32) &&& 1431655765)) : Int32).toUInt32 >>> ((2 : Int32).toUInt32 &&& Int32.toUInt32 31)).toInt32) &&& 858993459)) : Int32).toUInt32 >>> ((4 : Int32).toUInt32 &&& Int32.toUInt32 31)).toInt32)) &&& 252645135) + ((((((((x0 - ((((x0 : Int32).toUInt32 >>> ((1 : Int32).toUInt32 &&& Int32.toUInt32 31)).toInt32) &&& 1431655765)) &&& 858993459) + (((((x0 - ((((x0 : Int32).toUInt32 >>> ((1 : Int32).toUInt32 &&& Int32.toUInt32 31)).toInt32) &&& 1431655765)) : Int32).toUInt32 >>> ((2 : Int32).toUInt32 &&& Int32.toUInt32 31)).toInt32) &&& 858993459)) + ((((((x0 - ((((x0 : Int32).toUInt32 >>> ((1 : Int32).toUInt32 &&& Int32.toUInt32 31)).toInt32) &&& 1431655765)) &&& 858993459) + (((((x0 - ((((x0 : Int32).toUInt32 >>> ((1 : Int32).toUInt32 &&& Int32.toUInt32 31)).toInt32) &&& 1431655765)) : Int32).toUInt32 >>> ((2 : Int32).toUInt32 &&& Int32.toUInt32 31)).toInt32) &&& 858993459)) : Int32).toUInt32 >>> ((4 : Int32).toUInt32 &&& Int32.toUInt32 31)).toInt32)) &&& 252645135) : Int32).toUInt32 >>> ((8 : Int32).toUInt32 &&& Int32.toUInt32 31)).toInt32)) : Int32).toUInt32 >>> ((16 : Int32).toUInt32 &&& Int32.toUInt32 31)).toInt32)))]) (q := 48) dJ6_bitCount_0f7a4_47 (by decide) rfl rfl ?_
  refine go_iload_n (q := 49) dJ6_bitCount_0f7a4_48 rfl rfl ?_
  refine go_bipush (v := 63) (q := 51) dJ6_bitCount_0f7a4_49 (by decide) rfl ?_
  refine go_iand (q := 52) dJ6_bitCount_0f7a4_51 rfl ?_
  cases h
  exact go_iret dJ6_bitCount_0f7a4_52 rfl rfl (Nat.le_refl _) (Nat.le_refl _) ⟨rfl, rfl⟩
theorem t_J6_bitCount_0f7a4 (w : List va_E) (x0 : Int32) (r : Int32) (h : f_J6_bitCount_0f7a4 x0 = some r) : Cal 1 mJ6_bitCount_0f7a4 [.int x0] w 0 0 (some (.int r)) w := Cal.of (by decide) (g_cats rfl) (Nat.le_of_ble_eq_true rfl) (b_J6_bitCount_0f7a4 w r x0 h)
def f_X0_rowOf (x1 : Int32) : Option Int32 :=
  (f_J6_bitCount_0f7a4 (x1 - 1)).bind fun r1 =>
  some (r1 / 5)
set_option maxHeartbeats 4000000 in
set_option maxRecDepth 100000 in
theorem b_X0_rowOf (w : List va_E) (r : Int32) : ∀ (x1 : Int32) , f_X0_rowOf x1 = some r → Go gTr yX0_rowOf cX0_rowOf 2 (some .int) 2 0 0 (fun r9 w9 => r9 = some (.int r) ∧ w9 = w) 0 0 w 0 [some (.ref 1), some (.int x1)] [] := by
  intro x1 h
  rw [f_X0_rowOf] at h
  refine go_iload_n (q := 1) dX0_rowOf_0 rfl rfl ?_
  refine go_iconst (v := 1) (q := 2) dX0_rowOf_1 (by decide) rfl ?_
  refine go_isub (q := 3) dX0_rowOf_2 rfl ?_
  obtain ⟨r1, e2, h⟩ := g_bind h
  refine go_callS0 (q := 6) (as := [.int (x1 - 1)]) (rest := []) (st2 := [.int r1]) dX0_rowOf_3 cX0_58 (t_J6_bitCount_0f7a4 _ (x1 - 1) _ e2) rfl rfl (Nat.le_of_ble_eq_true rfl) (by decide) ⟨Nat.le_refl _, Nat.le_refl _⟩ rfl rfl ?_
  refine go_iconst (v := 5) (q := 7) dX0_rowOf_6 (by decide) rfl ?_
  refine go_idiv (q := 8) dX0_rowOf_7 (by decide) rfl ?_
  cases h
  exact go_iret dX0_rowOf_8 rfl rfl (Nat.le_refl _) (Nat.le_refl _) ⟨rfl, rfl⟩
theorem t_X0_rowOf (w : List va_E) (x1 : Int32) (r : Int32) (h : f_X0_rowOf x1 = some r) : Cal 2 mX0_rowOf [.ref 1, .int x1] w 0 0 (some (.int r)) w := Cal.of (by decide) (g_cats rfl) (Nat.le_of_ble_eq_true rfl) (b_X0_rowOf w r x1 h)
def f_X0_columnOf (x1 : Int32) : Option Int32 :=
  (f_J6_bitCount_0f7a4 (x1 - 1)).bind fun r1 =>
  some (r1 - r1 / 5 * 5)
set_option maxHeartbeats 4000000 in
set_option maxRecDepth 100000 in
theorem b_X0_columnOf (w : List va_E) (r : Int32) : ∀ (x1 : Int32) , f_X0_columnOf x1 = some r → Go gTr yX0_columnOf cX0_columnOf 2 (some .int) 2 0 0 (fun r9 w9 => r9 = some (.int r) ∧ w9 = w) 0 0 w 0 [some (.ref 1), some (.int x1)] [] := by
  intro x1 h
  rw [f_X0_columnOf] at h
  refine go_iload_n (q := 1) dX0_columnOf_0 rfl rfl ?_
  refine go_iconst (v := 1) (q := 2) dX0_columnOf_1 (by decide) rfl ?_
  refine go_isub (q := 3) dX0_columnOf_2 rfl ?_
  obtain ⟨r1, e2, h⟩ := g_bind h
  refine go_callS0 (q := 6) (as := [.int (x1 - 1)]) (rest := []) (st2 := [.int r1]) dX0_columnOf_3 cX0_58 (t_J6_bitCount_0f7a4 _ (x1 - 1) _ e2) rfl rfl (Nat.le_of_ble_eq_true rfl) (by decide) ⟨Nat.le_refl _, Nat.le_refl _⟩ rfl rfl ?_
  refine go_iconst (v := 5) (q := 7) dX0_columnOf_6 (by decide) rfl ?_
  refine go_irem (q := 8) dX0_columnOf_7 (by decide) rfl ?_
  cases h
  exact go_iret dX0_columnOf_8 rfl rfl (Nat.le_refl _) (Nat.le_refl _) ⟨rfl, rfl⟩
theorem t_X0_columnOf (w : List va_E) (x1 : Int32) (r : Int32) (h : f_X0_columnOf x1 = some r) : Cal 2 mX0_columnOf [.ref 1, .int x1] w 0 0 (some (.int r)) w := Cal.of (by decide) (g_cats rfl) (Nat.le_of_ble_eq_true rfl) (b_X0_columnOf w r x1 h)
def f_X0_cellOf (s : gS) (x1 : Int32) : Option Int32 :=
  if x1 = 0 then
    some (-1 : Int32)
  else
    (f_X0_rowOf x1).bind fun r2 =>
    (f_X0_columnOf x1).bind fun r4 =>
    some ((r2 * (s.1 0)) + r4)
set_option maxHeartbeats 4000000 in
set_option maxRecDepth 100000 in
theorem b_X0_cellOf (s : gS) (r : Int32) : ∀ (x1 : Int32) , f_X0_cellOf s x1 = some r → Go gTr yX0_cellOf cX0_cellOf 2 (some .int) 3 0 0 (fun r9 w9 => r9 = some (.int r) ∧ w9 = wW s) 0 0 (wW s) 0 [some (.ref 1), some (.int x1)] [] := by
  intro x1 h
  rw [f_X0_cellOf] at h
  refine go_iload_n (q := 1) dX0_cellOf_0 rfl rfl ?_
  refine go_if_ne (tgt := 8) (q := 4) dX0_cellOf_1 (by decide) rfl (fun c1 => ?_) (fun c1 => ?_)
  · replace h := g_neg c1 h
    refine go_aload_n (q := 9) dX0_cellOf_8 rfl rfl ?_
    refine go_iload_n (q := 10) dX0_cellOf_9 rfl rfl ?_
    obtain ⟨r2, e3, h⟩ := g_bind h
    refine go_callV0 (q := 13) (as := [.int x1]) (rest := []) (st2 := [.int r2]) (w2 := wW s) dX0_cellOf_10 cX0_51 (t_X0_rowOf _ x1 _ e3) (wg_1 _) rfl rfl rfl (Nat.le_of_ble_eq_true rfl) (by decide) ⟨Nat.le_refl _, Nat.le_refl _⟩ rfl rfl ?_
    refine go_aload_n (q := 14) dX0_cellOf_13 rfl rfl ?_
    refine go_get (v := .int (s.1 0)) (q := 17) dX0_cellOf_14 fX0_25 (wg_1 _) rfl rfl ?_
    refine go_imul (q := 18) dX0_cellOf_17 rfl ?_
    refine go_aload_n (q := 19) dX0_cellOf_18 rfl rfl ?_
    refine go_iload_n (q := 20) dX0_cellOf_19 rfl rfl ?_
    obtain ⟨r4, e5, h⟩ := g_bind h
    refine go_callV0 (q := 23) (as := [.int x1]) (rest := [.int (r2 * (s.1 0))]) (st2 := [.int r4, .int (r2 * (s.1 0))]) (w2 := wW s) dX0_cellOf_20 cX0_55 (t_X0_columnOf _ x1 _ e5) (wg_1 _) rfl rfl rfl (Nat.le_of_ble_eq_true rfl) (by decide) ⟨Nat.le_refl _, Nat.le_refl _⟩ rfl rfl ?_
    refine go_iadd (q := 24) dX0_cellOf_23 rfl ?_
    cases h
    exact go_iret dX0_cellOf_24 rfl rfl (Nat.le_refl _) (Nat.le_refl _) ⟨rfl, rfl⟩
  · replace h := g_pos c1 h
    refine go_iconst (v := (-1 : Int32)) (q := 5) dX0_cellOf_4 (by decide) rfl ?_
    refine go_goto (tgt := 24) dX0_cellOf_5 (by decide) ?_
    cases h
    exact go_iret dX0_cellOf_24 rfl rfl (Nat.le_refl _) (Nat.le_refl _) ⟨rfl, rfl⟩
theorem t_X0_cellOf (s : gS) (x1 : Int32) (r : Int32) (h : f_X0_cellOf s x1 = some r) : Cal 3 mX0_cellOf [.ref 1, .int x1] (wW s) 0 0 (some (.int r)) (wW s) := Cal.of (by decide) (g_cats rfl) (Nat.le_of_ble_eq_true rfl) (b_X0_cellOf s r x1 h)
def f_X0_openCells (s : gS) (x1 : Int32) : Option Int32 :=
  if (s.1 3) = 0 then
    some ((s.1 5) &&& (x1 ^^^ (-1 : Int32)))
  else
    some (((s.1 5) &&& (x1 ^^^ (-1 : Int32))) &&& ((x1 <<< (5 &&& 31)) ||| (s.1 6)))
set_option maxHeartbeats 4000000 in
set_option maxRecDepth 100000 in
theorem b_X0_openCells (s : gS) (r : Int32) : ∀ (x1 : Int32) , f_X0_openCells s x1 = some r → Go gTr yX0_openCells cX0_openCells 3 (some .int) 1 0 0 (fun r9 w9 => r9 = some (.int r) ∧ w9 = wW s) 0 0 (wW s) 0 [some (.ref 1), some (.int x1), none] [] := by
  intro x1 h
  rw [f_X0_openCells] at h
  refine go_aload_n (q := 1) dX0_openCells_0 rfl rfl ?_
  refine go_get (v := .int (s.1 5)) (q := 4) dX0_openCells_1 fX0_45 (wg_1 _) rfl rfl ?_
  refine go_iload_n (q := 5) dX0_openCells_4 rfl rfl ?_
  refine go_iconst (v := (-1 : Int32)) (q := 6) dX0_openCells_5 (by decide) rfl ?_
  refine go_ixor (q := 7) dX0_openCells_6 rfl ?_
  refine go_iand (q := 8) dX0_openCells_7 rfl ?_
  refine go_istore_n (ls2 := [some (.ref 1), some (.int x1), some (.int ((s.1 5) &&& (x1 ^^^ (-1 : Int32))))]) (q := 9) dX0_openCells_8 (by decide) rfl rfl ?_
  refine go_aload_n (q := 10) dX0_openCells_9 rfl rfl ?_
  refine go_get (v := .int (s.1 3)) (q := 13) dX0_openCells_10 fX0_35 (wg_1 _) rfl rfl ?_
  refine go_if_eq (tgt := 29) (q := 16) dX0_openCells_13 (by decide) rfl (fun c1 => ?_) (fun c1 => ?_)
  · replace h := g_pos c1 h
    refine go_iload_n (q := 30) dX0_openCells_29 rfl rfl ?_
    cases h
    exact go_iret dX0_openCells_30 rfl rfl (Nat.le_refl _) (Nat.le_refl _) ⟨rfl, rfl⟩
  · replace h := g_neg c1 h
    refine go_iload_n (q := 17) dX0_openCells_16 rfl rfl ?_
    refine go_iload_n (q := 18) dX0_openCells_17 rfl rfl ?_
    refine go_iconst (v := 5) (q := 19) dX0_openCells_18 (by decide) rfl ?_
    refine go_ishl (q := 20) dX0_openCells_19 rfl ?_
    refine go_aload_n (q := 21) dX0_openCells_20 rfl rfl ?_
    refine go_get (v := .int (s.1 6)) (q := 24) dX0_openCells_21 fX0_42 (wg_1 _) rfl rfl ?_
    refine go_ior (q := 25) dX0_openCells_24 rfl ?_
    refine go_iand (q := 26) dX0_openCells_25 rfl ?_
    refine go_goto (tgt := 30) dX0_openCells_26 (by decide) ?_
    cases h
    exact go_iret dX0_openCells_30 rfl rfl (Nat.le_refl _) (Nat.le_refl _) ⟨rfl, rfl⟩
theorem t_X0_openCells (s : gS) (x1 : Int32) (r : Int32) (h : f_X0_openCells s x1 = some r) : Cal 1 mX0_openCells [.ref 1, .int x1] (wW s) 0 0 (some (.int r)) (wW s) := Cal.of (by decide) (g_cats rfl) (Nat.le_of_ble_eq_true rfl) (b_X0_openCells s r x1 h)
def f_X0_completing_136 (K13 : gS → Int32 → Int32 → Int32 → Int32 → Option Int32) (s : gS) (x1 : Int32) (x2 : Int32) (x4 : Int32) (x5 : Int32) : Option Int32 :=
  K13 s x1 x2 x4 (x5 + 1)
set_option maxHeartbeats 4000000 in
set_option maxRecDepth 100000 in
theorem b_X0_completing_136 (K13 : gS → Int32 → Int32 → Int32 → Int32 → Option Int32) (s : gS) (r : Int32) (hK13 : ∀ (x1 : Int32) (x2 : Int32) (x4 : Int32) (x5 : Int32) , K13 s x1 x2 x4 x5 = some r → Go gTr yX0_completing cX0_completing 11 (some .int) 1 0 0 (fun r9 w9 => r9 = some (.int r) ∧ w9 = wW s) 0 0 (wW s) 13 [some (.ref 1), some (.int x1), some (.int x2), some (.ref 1000), some (.int x4), some (.int x5), none, none, none, none, none] []) : ∀ (x1 : Int32) (x2 : Int32) (x4 : Int32) (x5 : Int32) , f_X0_completing_136 K13 s x1 x2 x4 x5 = some r → Go gTr yX0_completing cX0_completing 11 (some .int) 1 0 0 (fun r9 w9 => r9 = some (.int r) ∧ w9 = wW s) 0 0 (wW s) 136 [some (.ref 1), some (.int x1), some (.int x2), some (.ref 1000), some (.int x4), some (.int x5), none, none, none, none, none] [] := by
  intro x1 x2 x4 x5 h
  rw [f_X0_completing_136] at h
  refine go_iinc (v := x5 + 1) (ls2 := [some (.ref 1), some (.int x1), some (.int x2), some (.ref 1000), some (.int x4), some (.int (x5 + 1)), none, none, none, none, none]) (q := 139) dX0_completing_136 (by decide) rfl rfl rfl rfl ?_
  refine go_goto (tgt := 13) dX0_completing_139 (by decide) ?_
  refine go_ls (ls2 := [some (.ref 1), some (.int x1), some (.int x2), some (.ref 1000), some (.int x4), some (.int (x5 + 1)), none, none, none, none, none]) ⟨rfl, rfl, rfl, rfl, rfl, rfl, trivial⟩ ?_
  exact hK13 x1 x2 x4 (x5 + 1) h
def f_X0_completing_13 : Nat → gS → Int32 → Int32 → Int32 → Int32 → Option Int32
  | 0, _, _, _, _, _ => none
  | φ + 1, s, x1, x2, x4, x5 =>
    if x4 ≤ x5 then
      some x2
    else
      if inB x5 4 = true then
        if (s.1 2) = 2 then
          f_X0_completing_136 (f_X0_completing_13 φ) s x1 (x2 ||| ((((x1 : Int32).toUInt32 >>> (((gSteps x5.toNatClampNeg) : Int32).toUInt32 &&& Int32.toUInt32 31)).toInt32) ||| (x1 <<< ((gSteps x5.toNatClampNeg) &&& 31)))) x4 x5
        else
          if (s.1 2) = 3 then
            f_X0_completing_136 (f_X0_completing_13 φ) s x1 (x2 ||| ((((((x1 : Int32).toUInt32 >>> (((gSteps x5.toNatClampNeg) : Int32).toUInt32 &&& Int32.toUInt32 31)).toInt32) &&& ((((((x1 : Int32).toUInt32 >>> (((gSteps x5.toNatClampNeg) : Int32).toUInt32 &&& Int32.toUInt32 31)).toInt32) : Int32).toUInt32 >>> (((gSteps x5.toNatClampNeg) : Int32).toUInt32 &&& Int32.toUInt32 31)).toInt32)) ||| ((x1 <<< ((gSteps x5.toNatClampNeg) &&& 31)) &&& ((x1 <<< ((gSteps x5.toNatClampNeg) &&& 31)) <<< ((gSteps x5.toNatClampNeg) &&& 31)))) ||| ((((x1 : Int32).toUInt32 >>> (((gSteps x5.toNatClampNeg) : Int32).toUInt32 &&& Int32.toUInt32 31)).toInt32) &&& (x1 <<< ((gSteps x5.toNatClampNeg) &&& 31))))) x4 x5
          else
            f_X0_completing_136 (f_X0_completing_13 φ) s x1 ((x2 ||| ((((((x1 : Int32).toUInt32 >>> (((gSteps x5.toNatClampNeg) : Int32).toUInt32 &&& Int32.toUInt32 31)).toInt32) &&& ((((((x1 : Int32).toUInt32 >>> (((gSteps x5.toNatClampNeg) : Int32).toUInt32 &&& Int32.toUInt32 31)).toInt32) : Int32).toUInt32 >>> (((gSteps x5.toNatClampNeg) : Int32).toUInt32 &&& Int32.toUInt32 31)).toInt32)) &&& (((((((x1 : Int32).toUInt32 >>> (((gSteps x5.toNatClampNeg) : Int32).toUInt32 &&& Int32.toUInt32 31)).toInt32) &&& ((((((x1 : Int32).toUInt32 >>> (((gSteps x5.toNatClampNeg) : Int32).toUInt32 &&& Int32.toUInt32 31)).toInt32) : Int32).toUInt32 >>> (((gSteps x5.toNatClampNeg) : Int32).toUInt32 &&& Int32.toUInt32 31)).toInt32)) : Int32).toUInt32 >>> (((gSteps x5.toNatClampNeg) : Int32).toUInt32 &&& Int32.toUInt32 31)).toInt32)) ||| (((x1 <<< ((gSteps x5.toNatClampNeg) &&& 31)) &&& ((x1 <<< ((gSteps x5.toNatClampNeg) &&& 31)) <<< ((gSteps x5.toNatClampNeg) &&& 31))) &&& (((x1 <<< ((gSteps x5.toNatClampNeg) &&& 31)) &&& ((x1 <<< ((gSteps x5.toNatClampNeg) &&& 31)) <<< ((gSteps x5.toNatClampNeg) &&& 31))) <<< ((gSteps x5.toNatClampNeg) &&& 31))))) ||| ((((((x1 : Int32).toUInt32 >>> (((gSteps x5.toNatClampNeg) : Int32).toUInt32 &&& Int32.toUInt32 31)).toInt32) &&& ((((((x1 : Int32).toUInt32 >>> (((gSteps x5.toNatClampNeg) : Int32).toUInt32 &&& Int32.toUInt32 31)).toInt32) : Int32).toUInt32 >>> (((gSteps x5.toNatClampNeg) : Int32).toUInt32 &&& Int32.toUInt32 31)).toInt32)) &&& (x1 <<< ((gSteps x5.toNatClampNeg) &&& 31))) ||| ((((x1 : Int32).toUInt32 >>> (((gSteps x5.toNatClampNeg) : Int32).toUInt32 &&& Int32.toUInt32 31)).toInt32) &&& ((x1 <<< ((gSteps x5.toNatClampNeg) &&& 31)) &&& ((x1 <<< ((gSteps x5.toNatClampNeg) &&& 31)) <<< ((gSteps x5.toNatClampNeg) &&& 31)))))) x4 x5
      else none
set_option maxHeartbeats 4000000 in
set_option maxRecDepth 100000 in
theorem b_X0_completing_13 (s : gS) (r : Int32) : ∀ (φ : Nat) (x1 : Int32) (x2 : Int32) (x4 : Int32) (x5 : Int32) , f_X0_completing_13 φ s x1 x2 x4 x5 = some r → Go gTr yX0_completing cX0_completing 11 (some .int) 1 0 0 (fun r9 w9 => r9 = some (.int r) ∧ w9 = wW s) 0 0 (wW s) 13 [some (.ref 1), some (.int x1), some (.int x2), some (.ref 1000), some (.int x4), some (.int x5), none, none, none, none, none] [] := by
  intro φ
  induction φ with
  | zero =>
    intro x1 x2 x4 x5 h
    exact absurd h (by intro h0; cases h0)
  | succ φ ih =>
    intro x1 x2 x4 x5 h
    rw [f_X0_completing_13] at h
    refine go_iload (q := 15) dX0_completing_13 rfl rfl ?_
    refine go_iload (q := 17) dX0_completing_15 rfl rfl ?_
    refine go_icmp_ge (tgt := 142) (q := 20) dX0_completing_17 (by decide) rfl (fun c1 => ?_) (fun c1 => ?_)
    · replace h := g_pos c1 h
      refine go_iload_n (q := 143) dX0_completing_142 rfl rfl ?_
      cases h
      exact go_iret dX0_completing_143 rfl rfl (Nat.le_refl _) (Nat.le_refl _) ⟨rfl, rfl⟩
    · replace h := g_neg c1 h
      refine go_aload_n (q := 21) dX0_completing_20 rfl rfl ?_
      refine go_iload (q := 23) dX0_completing_21 rfl rfl ?_
      obtain ⟨g2, h⟩ := g_guard h
      refine go_sald (q := 24) dX0_completing_23 (inB_in g2) rfl ?_
      refine go_istore (ls2 := [some (.ref 1), some (.int x1), some (.int x2), some (.ref 1000), some (.int x4), some (.int x5), some (.int (gSteps x5.toNatClampNeg)), none, none, none, none]) (q := 26) dX0_completing_24 (by decide) rfl rfl ?_
      refine go_iload_n (q := 27) dX0_completing_26 rfl rfl ?_
      refine go_iload (q := 29) dX0_completing_27 rfl rfl ?_
      refine go_iushr (q := 30) dX0_completing_29 rfl ?_
      refine go_istore (ls2 := [some (.ref 1), some (.int x1), some (.int x2), some (.ref 1000), some (.int x4), some (.int x5), some (.int (gSteps x5.toNatClampNeg)), some (.int (((x1 : Int32).toUInt32 >>> (((gSteps x5.toNatClampNeg) : Int32).toUInt32 &&& Int32.toUInt32 31)).toInt32)), none, none, none]) (q := 32) dX0_completing_30 (by decide) rfl rfl ?_
      refine go_iload_n (q := 33) dX0_completing_32 rfl rfl ?_
      refine go_iload (q := 35) dX0_completing_33 rfl rfl ?_
      refine go_ishl (q := 36) dX0_completing_35 rfl ?_
      refine go_istore (ls2 := [some (.ref 1), some (.int x1), some (.int x2), some (.ref 1000), some (.int x4), some (.int x5), some (.int (gSteps x5.toNatClampNeg)), some (.int (((x1 : Int32).toUInt32 >>> (((gSteps x5.toNatClampNeg) : Int32).toUInt32 &&& Int32.toUInt32 31)).toInt32)), some (.int (x1 <<< ((gSteps x5.toNatClampNeg) &&& 31))), none, none]) (q := 38) dX0_completing_36 (by decide) rfl rfl ?_
      refine go_iload (q := 40) dX0_completing_38 rfl rfl ?_
      refine go_iload (q := 42) dX0_completing_40 rfl rfl ?_
      refine go_iload (q := 44) dX0_completing_42 rfl rfl ?_
      refine go_iushr (q := 45) dX0_completing_44 rfl ?_
      refine go_iand (q := 46) dX0_completing_45 rfl ?_
      refine go_istore (ls2 := [some (.ref 1), some (.int x1), some (.int x2), some (.ref 1000), some (.int x4), some (.int x5), some (.int (gSteps x5.toNatClampNeg)), some (.int (((x1 : Int32).toUInt32 >>> (((gSteps x5.toNatClampNeg) : Int32).toUInt32 &&& Int32.toUInt32 31)).toInt32)), some (.int (x1 <<< ((gSteps x5.toNatClampNeg) &&& 31))), some (.int ((((x1 : Int32).toUInt32 >>> (((gSteps x5.toNatClampNeg) : Int32).toUInt32 &&& Int32.toUInt32 31)).toInt32) &&& ((((((x1 : Int32).toUInt32 >>> (((gSteps x5.toNatClampNeg) : Int32).toUInt32 &&& Int32.toUInt32 31)).toInt32) : Int32).toUInt32 >>> (((gSteps x5.toNatClampNeg) : Int32).toUInt32 &&& Int32.toUInt32 31)).toInt32))), none]) (q := 48) dX0_completing_46 (by decide) rfl rfl ?_
      refine go_iload (q := 50) dX0_completing_48 rfl rfl ?_
      refine go_iload (q := 52) dX0_completing_50 rfl rfl ?_
      refine go_iload (q := 54) dX0_completing_52 rfl rfl ?_
      refine go_ishl (q := 55) dX0_completing_54 rfl ?_
      refine go_iand (q := 56) dX0_completing_55 rfl ?_
      refine go_istore (ls2 := [some (.ref 1), some (.int x1), some (.int x2), some (.ref 1000), some (.int x4), some (.int x5), some (.int (gSteps x5.toNatClampNeg)), some (.int (((x1 : Int32).toUInt32 >>> (((gSteps x5.toNatClampNeg) : Int32).toUInt32 &&& Int32.toUInt32 31)).toInt32)), some (.int (x1 <<< ((gSteps x5.toNatClampNeg) &&& 31))), some (.int ((((x1 : Int32).toUInt32 >>> (((gSteps x5.toNatClampNeg) : Int32).toUInt32 &&& Int32.toUInt32 31)).toInt32) &&& ((((((x1 : Int32).toUInt32 >>> (((gSteps x5.toNatClampNeg) : Int32).toUInt32 &&& Int32.toUInt32 31)).toInt32) : Int32).toUInt32 >>> (((gSteps x5.toNatClampNeg) : Int32).toUInt32 &&& Int32.toUInt32 31)).toInt32))), some (.int ((x1 <<< ((gSteps x5.toNatClampNeg) &&& 31)) &&& ((x1 <<< ((gSteps x5.toNatClampNeg) &&& 31)) <<< ((gSteps x5.toNatClampNeg) &&& 31))))]) (q := 58) dX0_completing_56 (by decide) rfl rfl ?_
      refine go_aload_n (q := 59) dX0_completing_58 rfl rfl ?_
      refine go_get (v := .int (s.1 2)) (q := 62) dX0_completing_59 fX0_32 (wg_1 _) rfl rfl ?_
      refine go_iconst (v := 2) (q := 63) dX0_completing_62 (by decide) rfl ?_
      refine go_icmp_ne (tgt := 77) (q := 66) dX0_completing_63 (by decide) rfl (fun c3 => ?_) (fun c3 => ?_)
      · replace h := g_neg c3 h
        refine go_aload_n (q := 78) dX0_completing_77 rfl rfl ?_
        refine go_get (v := .int (s.1 2)) (q := 81) dX0_completing_78 fX0_32 (wg_1 _) rfl rfl ?_
        refine go_iconst (v := 3) (q := 82) dX0_completing_81 (by decide) rfl ?_
        refine go_icmp_ne (tgt := 102) (q := 85) dX0_completing_82 (by decide) rfl (fun c4 => ?_) (fun c4 => ?_)
        · replace h := g_neg c4 h
          refine go_iload_n (q := 103) dX0_completing_102 rfl rfl ?_
          refine go_iload (q := 105) dX0_completing_103 rfl rfl ?_
          refine go_iload (q := 107) dX0_completing_105 rfl rfl ?_
          refine go_iload (q := 109) dX0_completing_107 rfl rfl ?_
          refine go_iushr (q := 110) dX0_completing_109 rfl ?_
          refine go_iand (q := 111) dX0_completing_110 rfl ?_
          refine go_iload (q := 113) dX0_completing_111 rfl rfl ?_
          refine go_iload (q := 115) dX0_completing_113 rfl rfl ?_
          refine go_iload (q := 117) dX0_completing_115 rfl rfl ?_
          refine go_ishl (q := 118) dX0_completing_117 rfl ?_
          refine go_iand (q := 119) dX0_completing_118 rfl ?_
          refine go_ior (q := 120) dX0_completing_119 rfl ?_
          refine go_ior (q := 121) dX0_completing_120 rfl ?_
          refine go_istore_n (ls2 := [some (.ref 1), some (.int x1), some (.int (x2 ||| ((((((x1 : Int32).toUInt32 >>> (((gSteps x5.toNatClampNeg) : Int32).toUInt32 &&& Int32.toUInt32 31)).toInt32) &&& ((((((x1 : Int32).toUInt32 >>> (((gSteps x5.toNatClampNeg) : Int32).toUInt32 &&& Int32.toUInt32 31)).toInt32) : Int32).toUInt32 >>> (((gSteps x5.toNatClampNeg) : Int32).toUInt32 &&& Int32.toUInt32 31)).toInt32)) &&& (((((((x1 : Int32).toUInt32 >>> (((gSteps x5.toNatClampNeg) : Int32).toUInt32 &&& Int32.toUInt32 31)).toInt32) &&& ((((((x1 : Int32).toUInt32 >>> (((gSteps x5.toNatClampNeg) : Int32).toUInt32 &&& Int32.toUInt32 31)).toInt32) : Int32).toUInt32 >>> (((gSteps x5.toNatClampNeg) : Int32).toUInt32 &&& Int32.toUInt32 31)).toInt32)) : Int32).toUInt32 >>> (((gSteps x5.toNatClampNeg) : Int32).toUInt32 &&& Int32.toUInt32 31)).toInt32)) ||| (((x1 <<< ((gSteps x5.toNatClampNeg) &&& 31)) &&& ((x1 <<< ((gSteps x5.toNatClampNeg) &&& 31)) <<< ((gSteps x5.toNatClampNeg) &&& 31))) &&& (((x1 <<< ((gSteps x5.toNatClampNeg) &&& 31)) &&& ((x1 <<< ((gSteps x5.toNatClampNeg) &&& 31)) <<< ((gSteps x5.toNatClampNeg) &&& 31))) <<< ((gSteps x5.toNatClampNeg) &&& 31)))))), some (.ref 1000), some (.int x4), some (.int x5), some (.int (gSteps x5.toNatClampNeg)), some (.int (((x1 : Int32).toUInt32 >>> (((gSteps x5.toNatClampNeg) : Int32).toUInt32 &&& Int32.toUInt32 31)).toInt32)), some (.int (x1 <<< ((gSteps x5.toNatClampNeg) &&& 31))), some (.int ((((x1 : Int32).toUInt32 >>> (((gSteps x5.toNatClampNeg) : Int32).toUInt32 &&& Int32.toUInt32 31)).toInt32) &&& ((((((x1 : Int32).toUInt32 >>> (((gSteps x5.toNatClampNeg) : Int32).toUInt32 &&& Int32.toUInt32 31)).toInt32) : Int32).toUInt32 >>> (((gSteps x5.toNatClampNeg) : Int32).toUInt32 &&& Int32.toUInt32 31)).toInt32))), some (.int ((x1 <<< ((gSteps x5.toNatClampNeg) &&& 31)) &&& ((x1 <<< ((gSteps x5.toNatClampNeg) &&& 31)) <<< ((gSteps x5.toNatClampNeg) &&& 31))))]) (q := 122) dX0_completing_121 (by decide) rfl rfl ?_
          refine go_iload_n (q := 123) dX0_completing_122 rfl rfl ?_
          refine go_iload (q := 125) dX0_completing_123 rfl rfl ?_
          refine go_iload (q := 127) dX0_completing_125 rfl rfl ?_
          refine go_iand (q := 128) dX0_completing_127 rfl ?_
          refine go_iload (q := 130) dX0_completing_128 rfl rfl ?_
          refine go_iload (q := 132) dX0_completing_130 rfl rfl ?_
          refine go_iand (q := 133) dX0_completing_132 rfl ?_
          refine go_ior (q := 134) dX0_completing_133 rfl ?_
          refine go_ior (q := 135) dX0_completing_134 rfl ?_
          refine go_istore_n (ls2 := [some (.ref 1), some (.int x1), some (.int ((x2 ||| ((((((x1 : Int32).toUInt32 >>> (((gSteps x5.toNatClampNeg) : Int32).toUInt32 &&& Int32.toUInt32 31)).toInt32) &&& ((((((x1 : Int32).toUInt32 >>> (((gSteps x5.toNatClampNeg) : Int32).toUInt32 &&& Int32.toUInt32 31)).toInt32) : Int32).toUInt32 >>> (((gSteps x5.toNatClampNeg) : Int32).toUInt32 &&& Int32.toUInt32 31)).toInt32)) &&& (((((((x1 : Int32).toUInt32 >>> (((gSteps x5.toNatClampNeg) : Int32).toUInt32 &&& Int32.toUInt32 31)).toInt32) &&& ((((((x1 : Int32).toUInt32 >>> (((gSteps x5.toNatClampNeg) : Int32).toUInt32 &&& Int32.toUInt32 31)).toInt32) : Int32).toUInt32 >>> (((gSteps x5.toNatClampNeg) : Int32).toUInt32 &&& Int32.toUInt32 31)).toInt32)) : Int32).toUInt32 >>> (((gSteps x5.toNatClampNeg) : Int32).toUInt32 &&& Int32.toUInt32 31)).toInt32)) ||| (((x1 <<< ((gSteps x5.toNatClampNeg) &&& 31)) &&& ((x1 <<< ((gSteps x5.toNatClampNeg) &&& 31)) <<< ((gSteps x5.toNatClampNeg) &&& 31))) &&& (((x1 <<< ((gSteps x5.toNatClampNeg) &&& 31)) &&& ((x1 <<< ((gSteps x5.toNatClampNeg) &&& 31)) <<< ((gSteps x5.toNatClampNeg) &&& 31))) <<< ((gSteps x5.toNatClampNeg) &&& 31))))) ||| ((((((x1 : Int32).toUInt32 >>> (((gSteps x5.toNatClampNeg) : Int32).toUInt32 &&& Int32.toUInt32 31)).toInt32) &&& ((((((x1 : Int32).toUInt32 >>> (((gSteps x5.toNatClampNeg) : Int32).toUInt32 &&& Int32.toUInt32 31)).toInt32) : Int32).toUInt32 >>> (((gSteps x5.toNatClampNeg) : Int32).toUInt32 &&& Int32.toUInt32 31)).toInt32)) &&& (x1 <<< ((gSteps x5.toNatClampNeg) &&& 31))) ||| ((((x1 : Int32).toUInt32 >>> (((gSteps x5.toNatClampNeg) : Int32).toUInt32 &&& Int32.toUInt32 31)).toInt32) &&& ((x1 <<< ((gSteps x5.toNatClampNeg) &&& 31)) &&& ((x1 <<< ((gSteps x5.toNatClampNeg) &&& 31)) <<< ((gSteps x5.toNatClampNeg) &&& 31))))))), some (.ref 1000), some (.int x4), some (.int x5), some (.int (gSteps x5.toNatClampNeg)), some (.int (((x1 : Int32).toUInt32 >>> (((gSteps x5.toNatClampNeg) : Int32).toUInt32 &&& Int32.toUInt32 31)).toInt32)), some (.int (x1 <<< ((gSteps x5.toNatClampNeg) &&& 31))), some (.int ((((x1 : Int32).toUInt32 >>> (((gSteps x5.toNatClampNeg) : Int32).toUInt32 &&& Int32.toUInt32 31)).toInt32) &&& ((((((x1 : Int32).toUInt32 >>> (((gSteps x5.toNatClampNeg) : Int32).toUInt32 &&& Int32.toUInt32 31)).toInt32) : Int32).toUInt32 >>> (((gSteps x5.toNatClampNeg) : Int32).toUInt32 &&& Int32.toUInt32 31)).toInt32))), some (.int ((x1 <<< ((gSteps x5.toNatClampNeg) &&& 31)) &&& ((x1 <<< ((gSteps x5.toNatClampNeg) &&& 31)) <<< ((gSteps x5.toNatClampNeg) &&& 31))))]) (q := 136) dX0_completing_135 (by decide) rfl rfl ?_
          refine go_ls (ls2 := [some (.ref 1), some (.int x1), some (.int ((x2 ||| ((((((x1 : Int32).toUInt32 >>> (((gSteps x5.toNatClampNeg) : Int32).toUInt32 &&& Int32.toUInt32 31)).toInt32) &&& ((((((x1 : Int32).toUInt32 >>> (((gSteps x5.toNatClampNeg) : Int32).toUInt32 &&& Int32.toUInt32 31)).toInt32) : Int32).toUInt32 >>> (((gSteps x5.toNatClampNeg) : Int32).toUInt32 &&& Int32.toUInt32 31)).toInt32)) &&& (((((((x1 : Int32).toUInt32 >>> (((gSteps x5.toNatClampNeg) : Int32).toUInt32 &&& Int32.toUInt32 31)).toInt32) &&& ((((((x1 : Int32).toUInt32 >>> (((gSteps x5.toNatClampNeg) : Int32).toUInt32 &&& Int32.toUInt32 31)).toInt32) : Int32).toUInt32 >>> (((gSteps x5.toNatClampNeg) : Int32).toUInt32 &&& Int32.toUInt32 31)).toInt32)) : Int32).toUInt32 >>> (((gSteps x5.toNatClampNeg) : Int32).toUInt32 &&& Int32.toUInt32 31)).toInt32)) ||| (((x1 <<< ((gSteps x5.toNatClampNeg) &&& 31)) &&& ((x1 <<< ((gSteps x5.toNatClampNeg) &&& 31)) <<< ((gSteps x5.toNatClampNeg) &&& 31))) &&& (((x1 <<< ((gSteps x5.toNatClampNeg) &&& 31)) &&& ((x1 <<< ((gSteps x5.toNatClampNeg) &&& 31)) <<< ((gSteps x5.toNatClampNeg) &&& 31))) <<< ((gSteps x5.toNatClampNeg) &&& 31))))) ||| ((((((x1 : Int32).toUInt32 >>> (((gSteps x5.toNatClampNeg) : Int32).toUInt32 &&& Int32.toUInt32 31)).toInt32) &&& ((((((x1 : Int32).toUInt32 >>> (((gSteps x5.toNatClampNeg) : Int32).toUInt32 &&& Int32.toUInt32 31)).toInt32) : Int32).toUInt32 >>> (((gSteps x5.toNatClampNeg) : Int32).toUInt32 &&& Int32.toUInt32 31)).toInt32)) &&& (x1 <<< ((gSteps x5.toNatClampNeg) &&& 31))) ||| ((((x1 : Int32).toUInt32 >>> (((gSteps x5.toNatClampNeg) : Int32).toUInt32 &&& Int32.toUInt32 31)).toInt32) &&& ((x1 <<< ((gSteps x5.toNatClampNeg) &&& 31)) &&& ((x1 <<< ((gSteps x5.toNatClampNeg) &&& 31)) <<< ((gSteps x5.toNatClampNeg) &&& 31))))))), some (.ref 1000), some (.int x4), some (.int x5), none, none, none, none, none]) ⟨rfl, rfl, rfl, rfl, rfl, rfl, trivial⟩ ?_
          exact b_X0_completing_136 (f_X0_completing_13 φ) s r (fun x1 x2 x4 x5 h => ih x1 x2 x4 x5 h) x1 ((x2 ||| ((((((x1 : Int32).toUInt32 >>> (((gSteps x5.toNatClampNeg) : Int32).toUInt32 &&& Int32.toUInt32 31)).toInt32) &&& ((((((x1 : Int32).toUInt32 >>> (((gSteps x5.toNatClampNeg) : Int32).toUInt32 &&& Int32.toUInt32 31)).toInt32) : Int32).toUInt32 >>> (((gSteps x5.toNatClampNeg) : Int32).toUInt32 &&& Int32.toUInt32 31)).toInt32)) &&& (((((((x1 : Int32).toUInt32 >>> (((gSteps x5.toNatClampNeg) : Int32).toUInt32 &&& Int32.toUInt32 31)).toInt32) &&& ((((((x1 : Int32).toUInt32 >>> (((gSteps x5.toNatClampNeg) : Int32).toUInt32 &&& Int32.toUInt32 31)).toInt32) : Int32).toUInt32 >>> (((gSteps x5.toNatClampNeg) : Int32).toUInt32 &&& Int32.toUInt32 31)).toInt32)) : Int32).toUInt32 >>> (((gSteps x5.toNatClampNeg) : Int32).toUInt32 &&& Int32.toUInt32 31)).toInt32)) ||| (((x1 <<< ((gSteps x5.toNatClampNeg) &&& 31)) &&& ((x1 <<< ((gSteps x5.toNatClampNeg) &&& 31)) <<< ((gSteps x5.toNatClampNeg) &&& 31))) &&& (((x1 <<< ((gSteps x5.toNatClampNeg) &&& 31)) &&& ((x1 <<< ((gSteps x5.toNatClampNeg) &&& 31)) <<< ((gSteps x5.toNatClampNeg) &&& 31))) <<< ((gSteps x5.toNatClampNeg) &&& 31))))) ||| ((((((x1 : Int32).toUInt32 >>> (((gSteps x5.toNatClampNeg) : Int32).toUInt32 &&& Int32.toUInt32 31)).toInt32) &&& ((((((x1 : Int32).toUInt32 >>> (((gSteps x5.toNatClampNeg) : Int32).toUInt32 &&& Int32.toUInt32 31)).toInt32) : Int32).toUInt32 >>> (((gSteps x5.toNatClampNeg) : Int32).toUInt32 &&& Int32.toUInt32 31)).toInt32)) &&& (x1 <<< ((gSteps x5.toNatClampNeg) &&& 31))) ||| ((((x1 : Int32).toUInt32 >>> (((gSteps x5.toNatClampNeg) : Int32).toUInt32 &&& Int32.toUInt32 31)).toInt32) &&& ((x1 <<< ((gSteps x5.toNatClampNeg) &&& 31)) &&& ((x1 <<< ((gSteps x5.toNatClampNeg) &&& 31)) <<< ((gSteps x5.toNatClampNeg) &&& 31)))))) x4 x5 h
        · replace h := g_pos c4 h
          refine go_iload_n (q := 86) dX0_completing_85 rfl rfl ?_
          refine go_iload (q := 88) dX0_completing_86 rfl rfl ?_
          refine go_iload (q := 90) dX0_completing_88 rfl rfl ?_
          refine go_ior (q := 91) dX0_completing_90 rfl ?_
          refine go_iload (q := 93) dX0_completing_91 rfl rfl ?_
          refine go_iload (q := 95) dX0_completing_93 rfl rfl ?_
          refine go_iand (q := 96) dX0_completing_95 rfl ?_
          refine go_ior (q := 97) dX0_completing_96 rfl ?_
          refine go_ior (q := 98) dX0_completing_97 rfl ?_
          refine go_istore_n (ls2 := [some (.ref 1), some (.int x1), some (.int (x2 ||| ((((((x1 : Int32).toUInt32 >>> (((gSteps x5.toNatClampNeg) : Int32).toUInt32 &&& Int32.toUInt32 31)).toInt32) &&& ((((((x1 : Int32).toUInt32 >>> (((gSteps x5.toNatClampNeg) : Int32).toUInt32 &&& Int32.toUInt32 31)).toInt32) : Int32).toUInt32 >>> (((gSteps x5.toNatClampNeg) : Int32).toUInt32 &&& Int32.toUInt32 31)).toInt32)) ||| ((x1 <<< ((gSteps x5.toNatClampNeg) &&& 31)) &&& ((x1 <<< ((gSteps x5.toNatClampNeg) &&& 31)) <<< ((gSteps x5.toNatClampNeg) &&& 31)))) ||| ((((x1 : Int32).toUInt32 >>> (((gSteps x5.toNatClampNeg) : Int32).toUInt32 &&& Int32.toUInt32 31)).toInt32) &&& (x1 <<< ((gSteps x5.toNatClampNeg) &&& 31)))))), some (.ref 1000), some (.int x4), some (.int x5), some (.int (gSteps x5.toNatClampNeg)), some (.int (((x1 : Int32).toUInt32 >>> (((gSteps x5.toNatClampNeg) : Int32).toUInt32 &&& Int32.toUInt32 31)).toInt32)), some (.int (x1 <<< ((gSteps x5.toNatClampNeg) &&& 31))), some (.int ((((x1 : Int32).toUInt32 >>> (((gSteps x5.toNatClampNeg) : Int32).toUInt32 &&& Int32.toUInt32 31)).toInt32) &&& ((((((x1 : Int32).toUInt32 >>> (((gSteps x5.toNatClampNeg) : Int32).toUInt32 &&& Int32.toUInt32 31)).toInt32) : Int32).toUInt32 >>> (((gSteps x5.toNatClampNeg) : Int32).toUInt32 &&& Int32.toUInt32 31)).toInt32))), some (.int ((x1 <<< ((gSteps x5.toNatClampNeg) &&& 31)) &&& ((x1 <<< ((gSteps x5.toNatClampNeg) &&& 31)) <<< ((gSteps x5.toNatClampNeg) &&& 31))))]) (q := 99) dX0_completing_98 (by decide) rfl rfl ?_
          refine go_goto (tgt := 136) dX0_completing_99 (by decide) ?_
          refine go_ls (ls2 := [some (.ref 1), some (.int x1), some (.int (x2 ||| ((((((x1 : Int32).toUInt32 >>> (((gSteps x5.toNatClampNeg) : Int32).toUInt32 &&& Int32.toUInt32 31)).toInt32) &&& ((((((x1 : Int32).toUInt32 >>> (((gSteps x5.toNatClampNeg) : Int32).toUInt32 &&& Int32.toUInt32 31)).toInt32) : Int32).toUInt32 >>> (((gSteps x5.toNatClampNeg) : Int32).toUInt32 &&& Int32.toUInt32 31)).toInt32)) ||| ((x1 <<< ((gSteps x5.toNatClampNeg) &&& 31)) &&& ((x1 <<< ((gSteps x5.toNatClampNeg) &&& 31)) <<< ((gSteps x5.toNatClampNeg) &&& 31)))) ||| ((((x1 : Int32).toUInt32 >>> (((gSteps x5.toNatClampNeg) : Int32).toUInt32 &&& Int32.toUInt32 31)).toInt32) &&& (x1 <<< ((gSteps x5.toNatClampNeg) &&& 31)))))), some (.ref 1000), some (.int x4), some (.int x5), none, none, none, none, none]) ⟨rfl, rfl, rfl, rfl, rfl, rfl, trivial⟩ ?_
          exact b_X0_completing_136 (f_X0_completing_13 φ) s r (fun x1 x2 x4 x5 h => ih x1 x2 x4 x5 h) x1 (x2 ||| ((((((x1 : Int32).toUInt32 >>> (((gSteps x5.toNatClampNeg) : Int32).toUInt32 &&& Int32.toUInt32 31)).toInt32) &&& ((((((x1 : Int32).toUInt32 >>> (((gSteps x5.toNatClampNeg) : Int32).toUInt32 &&& Int32.toUInt32 31)).toInt32) : Int32).toUInt32 >>> (((gSteps x5.toNatClampNeg) : Int32).toUInt32 &&& Int32.toUInt32 31)).toInt32)) ||| ((x1 <<< ((gSteps x5.toNatClampNeg) &&& 31)) &&& ((x1 <<< ((gSteps x5.toNatClampNeg) &&& 31)) <<< ((gSteps x5.toNatClampNeg) &&& 31)))) ||| ((((x1 : Int32).toUInt32 >>> (((gSteps x5.toNatClampNeg) : Int32).toUInt32 &&& Int32.toUInt32 31)).toInt32) &&& (x1 <<< ((gSteps x5.toNatClampNeg) &&& 31))))) x4 x5 h
      · replace h := g_pos c3 h
        refine go_iload_n (q := 67) dX0_completing_66 rfl rfl ?_
        refine go_iload (q := 69) dX0_completing_67 rfl rfl ?_
        refine go_iload (q := 71) dX0_completing_69 rfl rfl ?_
        refine go_ior (q := 72) dX0_completing_71 rfl ?_
        refine go_ior (q := 73) dX0_completing_72 rfl ?_
        refine go_istore_n (ls2 := [some (.ref 1), some (.int x1), some (.int (x2 ||| ((((x1 : Int32).toUInt32 >>> (((gSteps x5.toNatClampNeg) : Int32).toUInt32 &&& Int32.toUInt32 31)).toInt32) ||| (x1 <<< ((gSteps x5.toNatClampNeg) &&& 31))))), some (.ref 1000), some (.int x4), some (.int x5), some (.int (gSteps x5.toNatClampNeg)), some (.int (((x1 : Int32).toUInt32 >>> (((gSteps x5.toNatClampNeg) : Int32).toUInt32 &&& Int32.toUInt32 31)).toInt32)), some (.int (x1 <<< ((gSteps x5.toNatClampNeg) &&& 31))), some (.int ((((x1 : Int32).toUInt32 >>> (((gSteps x5.toNatClampNeg) : Int32).toUInt32 &&& Int32.toUInt32 31)).toInt32) &&& ((((((x1 : Int32).toUInt32 >>> (((gSteps x5.toNatClampNeg) : Int32).toUInt32 &&& Int32.toUInt32 31)).toInt32) : Int32).toUInt32 >>> (((gSteps x5.toNatClampNeg) : Int32).toUInt32 &&& Int32.toUInt32 31)).toInt32))), some (.int ((x1 <<< ((gSteps x5.toNatClampNeg) &&& 31)) &&& ((x1 <<< ((gSteps x5.toNatClampNeg) &&& 31)) <<< ((gSteps x5.toNatClampNeg) &&& 31))))]) (q := 74) dX0_completing_73 (by decide) rfl rfl ?_
        refine go_goto (tgt := 136) dX0_completing_74 (by decide) ?_
        refine go_ls (ls2 := [some (.ref 1), some (.int x1), some (.int (x2 ||| ((((x1 : Int32).toUInt32 >>> (((gSteps x5.toNatClampNeg) : Int32).toUInt32 &&& Int32.toUInt32 31)).toInt32) ||| (x1 <<< ((gSteps x5.toNatClampNeg) &&& 31))))), some (.ref 1000), some (.int x4), some (.int x5), none, none, none, none, none]) ⟨rfl, rfl, rfl, rfl, rfl, rfl, trivial⟩ ?_
        exact b_X0_completing_136 (f_X0_completing_13 φ) s r (fun x1 x2 x4 x5 h => ih x1 x2 x4 x5 h) x1 (x2 ||| ((((x1 : Int32).toUInt32 >>> (((gSteps x5.toNatClampNeg) : Int32).toUInt32 &&& Int32.toUInt32 31)).toInt32) ||| (x1 <<< ((gSteps x5.toNatClampNeg) &&& 31)))) x4 x5 h
def f_X0_completing (s : gS) (x1 : Int32) : Option Int32 :=
  f_X0_completing_13 gφ s x1 0 4 0
set_option maxHeartbeats 4000000 in
set_option maxRecDepth 100000 in
theorem b_X0_completing (s : gS) (r : Int32) : ∀ (x1 : Int32) , f_X0_completing s x1 = some r → Go gTr yX0_completing cX0_completing 11 (some .int) 1 0 0 (fun r9 w9 => r9 = some (.int r) ∧ w9 = wW s) 0 0 (wW s) 0 [some (.ref 1), some (.int x1), none, none, none, none, none, none, none, none, none] [] := by
  intro x1 h
  rw [f_X0_completing] at h
  refine go_iconst (v := 0) (q := 1) dX0_completing_0 (by decide) rfl ?_
  refine go_istore_n (ls2 := [some (.ref 1), some (.int x1), some (.int 0), none, none, none, none, none, none, none, none]) (q := 2) dX0_completing_1 (by decide) rfl rfl ?_
  refine go_steps (q := 5) dX0_completing_2 fX0_63 rfl ?_
  refine go_astore_n (ls2 := [some (.ref 1), some (.int x1), some (.int 0), some (.ref 1000), none, none, none, none, none, none, none]) (q := 6) dX0_completing_5 (by decide) rfl rfl ?_
  refine go_aload_n (q := 7) dX0_completing_6 rfl rfl ?_
  refine go_slen (q := 8) dX0_completing_7 rfl ?_
  refine go_istore (ls2 := [some (.ref 1), some (.int x1), some (.int 0), some (.ref 1000), some (.int 4), none, none, none, none, none, none]) (q := 10) dX0_completing_8 (by decide) rfl rfl ?_
  refine go_iconst (v := 0) (q := 11) dX0_completing_10 (by decide) rfl ?_
  refine go_istore (ls2 := [some (.ref 1), some (.int x1), some (.int 0), some (.ref 1000), some (.int 4), some (.int 0), none, none, none, none, none]) (q := 13) dX0_completing_11 (by decide) rfl rfl ?_
  refine go_ls (ls2 := [some (.ref 1), some (.int x1), some (.int 0), some (.ref 1000), some (.int 4), some (.int 0), none, none, none, none, none]) ⟨rfl, rfl, rfl, rfl, rfl, rfl, trivial⟩ ?_
  exact b_X0_completing_13 s r gφ x1 0 4 0 h
theorem t_X0_completing (s : gS) (x1 : Int32) (r : Int32) (h : f_X0_completing s x1 = some r) : Cal 1 mX0_completing [.ref 1, .int x1] (wW s) 0 0 (some (.int r)) (wW s) := Cal.of (by decide) (g_cats rfl) (Nat.le_of_ble_eq_true rfl) (b_X0_completing s r x1 h)
def f_X0_lineAlong_4 : Nat → gS → Int32 → Int32 → Int32 → Option Int32
  | 0, _, _, _, _ => none
  | φ + 1, s, x1, x2, x3 =>
    if (s.1 2) ≤ x3 then
      some x2
    else
      f_X0_lineAlong_4 φ s x1 (x2 ||| (1 <<< ((x3 * x1) &&& 31))) (x3 + 1)
set_option maxHeartbeats 4000000 in
set_option maxRecDepth 100000 in
theorem b_X0_lineAlong_4 (s : gS) (r : Int32) : ∀ (φ : Nat) (x1 : Int32) (x2 : Int32) (x3 : Int32) , f_X0_lineAlong_4 φ s x1 x2 x3 = some r → Go gTr yX0_lineAlong cX0_lineAlong 4 (some .int) 1 0 0 (fun r9 w9 => r9 = some (.int r) ∧ w9 = wW s) 0 0 (wW s) 4 [some (.ref 1), some (.int x1), some (.int x2), some (.int x3)] [] := by
  intro φ
  induction φ with
  | zero =>
    intro x1 x2 x3 h
    exact absurd h (by intro h0; cases h0)
  | succ φ ih =>
    intro x1 x2 x3 h
    rw [f_X0_lineAlong_4] at h
    refine go_iload_n (q := 5) dX0_lineAlong_4 rfl rfl ?_
    refine go_aload_n (q := 6) dX0_lineAlong_5 rfl rfl ?_
    refine go_get (v := .int (s.1 2)) (q := 9) dX0_lineAlong_6 fX0_32 (wg_1 _) rfl rfl ?_
    refine go_icmp_ge (tgt := 26) (q := 12) dX0_lineAlong_9 (by decide) rfl (fun c1 => ?_) (fun c1 => ?_)
    · replace h := g_pos c1 h
      refine go_iload_n (q := 27) dX0_lineAlong_26 rfl rfl ?_
      cases h
      exact go_iret dX0_lineAlong_27 rfl rfl (Nat.le_refl _) (Nat.le_refl _) ⟨rfl, rfl⟩
    · replace h := g_neg c1 h
      refine go_iload_n (q := 13) dX0_lineAlong_12 rfl rfl ?_
      refine go_iconst (v := 1) (q := 14) dX0_lineAlong_13 (by decide) rfl ?_
      refine go_iload_n (q := 15) dX0_lineAlong_14 rfl rfl ?_
      refine go_iload_n (q := 16) dX0_lineAlong_15 rfl rfl ?_
      refine go_imul (q := 17) dX0_lineAlong_16 rfl ?_
      refine go_ishl (q := 18) dX0_lineAlong_17 rfl ?_
      refine go_ior (q := 19) dX0_lineAlong_18 rfl ?_
      refine go_istore_n (ls2 := [some (.ref 1), some (.int x1), some (.int (x2 ||| (1 <<< ((x3 * x1) &&& 31)))), some (.int x3)]) (q := 20) dX0_lineAlong_19 (by decide) rfl rfl ?_
      refine go_iinc (v := x3 + 1) (ls2 := [some (.ref 1), some (.int x1), some (.int (x2 ||| (1 <<< ((x3 * x1) &&& 31)))), some (.int (x3 + 1))]) (q := 23) dX0_lineAlong_20 (by decide) rfl rfl rfl rfl ?_
      refine go_goto (tgt := 4) dX0_lineAlong_23 (by decide) ?_
      refine go_ls (ls2 := [some (.ref 1), some (.int x1), some (.int (x2 ||| (1 <<< ((x3 * x1) &&& 31)))), some (.int (x3 + 1))]) ⟨rfl, rfl, rfl, rfl, trivial⟩ ?_
      exact ih x1 (x2 ||| (1 <<< ((x3 * x1) &&& 31))) (x3 + 1) h
def f_X0_lineAlong (s : gS) (x1 : Int32) : Option Int32 :=
  f_X0_lineAlong_4 gφ s x1 1 1
set_option maxHeartbeats 4000000 in
set_option maxRecDepth 100000 in
theorem b_X0_lineAlong (s : gS) (r : Int32) : ∀ (x1 : Int32) , f_X0_lineAlong s x1 = some r → Go gTr yX0_lineAlong cX0_lineAlong 4 (some .int) 1 0 0 (fun r9 w9 => r9 = some (.int r) ∧ w9 = wW s) 0 0 (wW s) 0 [some (.ref 1), some (.int x1), none, none] [] := by
  intro x1 h
  rw [f_X0_lineAlong] at h
  refine go_iconst (v := 1) (q := 1) dX0_lineAlong_0 (by decide) rfl ?_
  refine go_istore_n (ls2 := [some (.ref 1), some (.int x1), some (.int 1), none]) (q := 2) dX0_lineAlong_1 (by decide) rfl rfl ?_
  refine go_iconst (v := 1) (q := 3) dX0_lineAlong_2 (by decide) rfl ?_
  refine go_istore_n (ls2 := [some (.ref 1), some (.int x1), some (.int 1), some (.int 1)]) (q := 4) dX0_lineAlong_3 (by decide) rfl rfl ?_
  refine go_ls (ls2 := [some (.ref 1), some (.int x1), some (.int 1), some (.int 1)]) ⟨rfl, rfl, rfl, rfl, trivial⟩ ?_
  exact b_X0_lineAlong_4 s r gφ x1 1 1 h
theorem t_X0_lineAlong (s : gS) (x1 : Int32) (r : Int32) (h : f_X0_lineAlong s x1 = some r) : Cal 1 mX0_lineAlong [.ref 1, .int x1] (wW s) 0 0 (some (.int r)) (wW s) := Cal.of (by decide) (g_cats rfl) (Nat.le_of_ble_eq_true rfl) (b_X0_lineAlong s r x1 h)
def f_X0_withSupports_5 : Nat → gS → Int32 → Int32 → Int32 → Option Int32
  | 0, _, _, _, _ => none
  | φ + 1, s, x2, x3, x4 =>
    if (s.1 1) ≤ x4 then
      some x3
    else
      if (s.1 3) = 0 then
        some x3
      else
        f_X0_withSupports_5 φ s x2 (x3 ||| ((((x3 : Int32).toUInt32 >>> ((5 : Int32).toUInt32 &&& Int32.toUInt32 31)).toInt32) &&& x2)) (x4 + 1)
set_option maxHeartbeats 4000000 in
set_option maxRecDepth 100000 in
theorem b_X0_withSupports_5 (s : gS) (r : Int32) : ∀ (φ : Nat) (x2 : Int32) (x3 : Int32) (x4 : Int32) , f_X0_withSupports_5 φ s x2 x3 x4 = some r → Go gTr yX0_withSupports cX0_withSupports 5 (some .int) 1 0 0 (fun r9 w9 => r9 = some (.int r) ∧ w9 = wW s) 0 0 (wW s) 5 [some (.ref 1), none, some (.int x2), some (.int x3), some (.int x4)] [] := by
  intro φ
  induction φ with
  | zero =>
    intro x2 x3 x4 h
    exact absurd h (by intro h0; cases h0)
  | succ φ ih =>
    intro x2 x3 x4 h
    rw [f_X0_withSupports_5] at h
    refine go_iload (q := 7) dX0_withSupports_5 rfl rfl ?_
    refine go_aload_n (q := 8) dX0_withSupports_7 rfl rfl ?_
    refine go_get (v := .int (s.1 1)) (q := 11) dX0_withSupports_8 fX0_29 (wg_1 _) rfl rfl ?_
    refine go_icmp_ge (tgt := 35) (q := 14) dX0_withSupports_11 (by decide) rfl (fun c1 => ?_) (fun c1 => ?_)
    · replace h := g_pos c1 h
      refine go_iload_n (q := 36) dX0_withSupports_35 rfl rfl ?_
      cases h
      exact go_iret dX0_withSupports_36 rfl rfl (Nat.le_refl _) (Nat.le_refl _) ⟨rfl, rfl⟩
    · replace h := g_neg c1 h
      refine go_aload_n (q := 15) dX0_withSupports_14 rfl rfl ?_
      refine go_get (v := .int (s.1 3)) (q := 18) dX0_withSupports_15 fX0_35 (wg_1 _) rfl rfl ?_
      refine go_if_eq (tgt := 35) (q := 21) dX0_withSupports_18 (by decide) rfl (fun c2 => ?_) (fun c2 => ?_)
      · replace h := g_pos c2 h
        refine go_iload_n (q := 36) dX0_withSupports_35 rfl rfl ?_
        cases h
        exact go_iret dX0_withSupports_36 rfl rfl (Nat.le_refl _) (Nat.le_refl _) ⟨rfl, rfl⟩
      · replace h := g_neg c2 h
        refine go_iload_n (q := 22) dX0_withSupports_21 rfl rfl ?_
        refine go_iload_n (q := 23) dX0_withSupports_22 rfl rfl ?_
        refine go_iconst (v := 5) (q := 24) dX0_withSupports_23 (by decide) rfl ?_
        refine go_iushr (q := 25) dX0_withSupports_24 rfl ?_
        refine go_iload_n (q := 26) dX0_withSupports_25 rfl rfl ?_
        refine go_iand (q := 27) dX0_withSupports_26 rfl ?_
        refine go_ior (q := 28) dX0_withSupports_27 rfl ?_
        refine go_istore_n (ls2 := [some (.ref 1), none, some (.int x2), some (.int (x3 ||| ((((x3 : Int32).toUInt32 >>> ((5 : Int32).toUInt32 &&& Int32.toUInt32 31)).toInt32) &&& x2))), some (.int x4)]) (q := 29) dX0_withSupports_28 (by decide) rfl rfl ?_
        refine go_iinc (v := x4 + 1) (ls2 := [some (.ref 1), none, some (.int x2), some (.int (x3 ||| ((((x3 : Int32).toUInt32 >>> ((5 : Int32).toUInt32 &&& Int32.toUInt32 31)).toInt32) &&& x2))), some (.int (x4 + 1))]) (q := 32) dX0_withSupports_29 (by decide) rfl rfl rfl rfl ?_
        refine go_goto (tgt := 5) dX0_withSupports_32 (by decide) ?_
        refine go_ls (ls2 := [some (.ref 1), none, some (.int x2), some (.int (x3 ||| ((((x3 : Int32).toUInt32 >>> ((5 : Int32).toUInt32 &&& Int32.toUInt32 31)).toInt32) &&& x2))), some (.int (x4 + 1))]) ⟨rfl, rfl, rfl, rfl, trivial⟩ ?_
        exact ih x2 (x3 ||| ((((x3 : Int32).toUInt32 >>> ((5 : Int32).toUInt32 &&& Int32.toUInt32 31)).toInt32) &&& x2)) (x4 + 1) h
def f_X0_withSupports (s : gS) (x1 : Int32) (x2 : Int32) : Option Int32 :=
  f_X0_withSupports_5 gφ s x2 x1 1
set_option maxHeartbeats 4000000 in
set_option maxRecDepth 100000 in
theorem b_X0_withSupports (s : gS) (r : Int32) : ∀ (x1 : Int32) (x2 : Int32) , f_X0_withSupports s x1 x2 = some r → Go gTr yX0_withSupports cX0_withSupports 5 (some .int) 1 0 0 (fun r9 w9 => r9 = some (.int r) ∧ w9 = wW s) 0 0 (wW s) 0 [some (.ref 1), some (.int x1), some (.int x2), none, none] [] := by
  intro x1 x2 h
  rw [f_X0_withSupports] at h
  refine go_iload_n (q := 1) dX0_withSupports_0 rfl rfl ?_
  refine go_istore_n (ls2 := [some (.ref 1), some (.int x1), some (.int x2), some (.int x1), none]) (q := 2) dX0_withSupports_1 (by decide) rfl rfl ?_
  refine go_iconst (v := 1) (q := 3) dX0_withSupports_2 (by decide) rfl ?_
  refine go_istore (ls2 := [some (.ref 1), some (.int x1), some (.int x2), some (.int x1), some (.int 1)]) (q := 5) dX0_withSupports_3 (by decide) rfl rfl ?_
  refine go_ls (ls2 := [some (.ref 1), none, some (.int x2), some (.int x1), some (.int 1)]) ⟨rfl, rfl, rfl, rfl, trivial⟩ ?_
  exact b_X0_withSupports_5 s r gφ x2 x1 1 h
theorem t_X0_withSupports (s : gS) (x1 : Int32) (x2 : Int32) (r : Int32) (h : f_X0_withSupports s x1 x2 = some r) : Cal 1 mX0_withSupports [.ref 1, .int x1, .int x2] (wW s) 0 0 (some (.int r)) (wW s) := Cal.of (by decide) (g_cats rfl) (Nat.le_of_ble_eq_true rfl) (b_X0_withSupports s r x1 x2 h)
def f_X0_fewestToRow_120 (K16 : gS → Int32 → Int32 → Int32 → Int32 → Int32 → Option Int32) (K52 : gS → Int32 → Int32 → Int32 → Int32 → Int32 → Int32 → Int32 → Int32 → Option Int32) (s : gS) (x1 : Int32) (x2 : Int32) (x3 : Int32) (x5 : Int32) (x6 : Int32) (x8 : Int32) (x9 : Int32) (x10 : Int32) : Option Int32 :=
  K52 s x1 x2 x3 x5 x6 x8 x9 (x10 + 1)
set_option maxHeartbeats 4000000 in
set_option maxRecDepth 100000 in
theorem b_X0_fewestToRow_120 (K16 : gS → Int32 → Int32 → Int32 → Int32 → Int32 → Option Int32) (K52 : gS → Int32 → Int32 → Int32 → Int32 → Int32 → Int32 → Int32 → Int32 → Option Int32) (s : gS) (r : Int32) (hK16 : ∀ (x1 : Int32) (x2 : Int32) (x3 : Int32) (x5 : Int32) (x6 : Int32) , K16 s x1 x2 x3 x5 x6 = some r → Go gTr yX0_fewestToRow cX0_fewestToRow 13 (some .int) 2 0 0 (fun r9 w9 => r9 = some (.int r) ∧ w9 = wW s) 0 0 (wW s) 16 [some (.ref 1), some (.int x1), some (.int x2), some (.int x3), some (.ref 1000), some (.int x5), some (.int x6), none, none, none, none, none, none] []) (hK52 : ∀ (x1 : Int32) (x2 : Int32) (x3 : Int32) (x5 : Int32) (x6 : Int32) (x8 : Int32) (x9 : Int32) (x10 : Int32) , K52 s x1 x2 x3 x5 x6 x8 x9 x10 = some r → Go gTr yX0_fewestToRow cX0_fewestToRow 13 (some .int) 2 0 0 (fun r9 w9 => r9 = some (.int r) ∧ w9 = wW s) 0 0 (wW s) 52 [some (.ref 1), some (.int x1), some (.int x2), some (.int x3), some (.ref 1000), some (.int x5), some (.int x6), none, some (.int x8), some (.int x9), some (.int x10), none, none] []) : ∀ (x1 : Int32) (x2 : Int32) (x3 : Int32) (x5 : Int32) (x6 : Int32) (x8 : Int32) (x9 : Int32) (x10 : Int32) , f_X0_fewestToRow_120 K16 K52 s x1 x2 x3 x5 x6 x8 x9 x10 = some r → Go gTr yX0_fewestToRow cX0_fewestToRow 13 (some .int) 2 0 0 (fun r9 w9 => r9 = some (.int r) ∧ w9 = wW s) 0 0 (wW s) 120 [some (.ref 1), some (.int x1), some (.int x2), some (.int x3), some (.ref 1000), some (.int x5), some (.int x6), none, some (.int x8), some (.int x9), some (.int x10), none, none] [] := by
  intro x1 x2 x3 x5 x6 x8 x9 x10 h
  rw [f_X0_fewestToRow_120] at h
  refine go_iinc (v := x10 + 1) (ls2 := [some (.ref 1), some (.int x1), some (.int x2), some (.int x3), some (.ref 1000), some (.int x5), some (.int x6), none, some (.int x8), some (.int x9), some (.int (x10 + 1)), none, none]) (q := 123) dX0_fewestToRow_120 (by decide) rfl rfl rfl rfl ?_
  refine go_goto (tgt := 52) dX0_fewestToRow_123 (by decide) ?_
  refine go_ls (ls2 := [some (.ref 1), some (.int x1), some (.int x2), some (.int x3), some (.ref 1000), some (.int x5), some (.int x6), none, some (.int x8), some (.int x9), some (.int (x10 + 1)), none, none]) ⟨rfl, rfl, rfl, rfl, rfl, rfl, rfl, rfl, rfl, rfl, trivial⟩ ?_
  exact hK52 x1 x2 x3 x5 x6 x8 x9 (x10 + 1) h
def f_X0_fewestToRow_52 (K16 : gS → Int32 → Int32 → Int32 → Int32 → Int32 → Option Int32) : Nat → gS → Int32 → Int32 → Int32 → Int32 → Int32 → Int32 → Int32 → Int32 → Option Int32
  | 0, _, _, _, _, _, _, _, _, _ => none
  | φ + 1, s, x1, x2, x3, x5, x6, x8, x9, x10 =>
    if 20 ≤ (x10 + x9) then
      K16 s x1 x2 x3 x5 (x6 + 1)
    else
      if ((x8 <<< (x10 &&& 31)) &&& ((s.1 5) ^^^ (-1 : Int32))) = 0 then
        if ((x8 <<< (x10 &&& 31)) &&& x2) = 0 then
          (f_X0_withSupports s ((x8 <<< (x10 &&& 31)) &&& (x1 ^^^ (-1 : Int32))) ((s.1 5) &&& ((x1 ||| x2) ^^^ (-1 : Int32)))).bind fun r4 =>
          (f_J6_bitCount_0f7a4 r4).bind fun r6 =>
          f_X0_fewestToRow_120 K16 (f_X0_fewestToRow_52 K16 φ) s x1 x2 (if r6 < x3 then r6 else x3) x5 x6 x8 x9 x10
        else
          f_X0_fewestToRow_120 K16 (f_X0_fewestToRow_52 K16 φ) s x1 x2 x3 x5 x6 x8 x9 x10
      else
        f_X0_fewestToRow_120 K16 (f_X0_fewestToRow_52 K16 φ) s x1 x2 x3 x5 x6 x8 x9 x10
set_option maxHeartbeats 4000000 in
set_option maxRecDepth 100000 in
theorem b_X0_fewestToRow_52 (K16 : gS → Int32 → Int32 → Int32 → Int32 → Int32 → Option Int32) (s : gS) (r : Int32) (hK16 : ∀ (x1 : Int32) (x2 : Int32) (x3 : Int32) (x5 : Int32) (x6 : Int32) , K16 s x1 x2 x3 x5 x6 = some r → Go gTr yX0_fewestToRow cX0_fewestToRow 13 (some .int) 2 0 0 (fun r9 w9 => r9 = some (.int r) ∧ w9 = wW s) 0 0 (wW s) 16 [some (.ref 1), some (.int x1), some (.int x2), some (.int x3), some (.ref 1000), some (.int x5), some (.int x6), none, none, none, none, none, none] []) : ∀ (φ : Nat) (x1 : Int32) (x2 : Int32) (x3 : Int32) (x5 : Int32) (x6 : Int32) (x8 : Int32) (x9 : Int32) (x10 : Int32) , f_X0_fewestToRow_52 K16 φ s x1 x2 x3 x5 x6 x8 x9 x10 = some r → Go gTr yX0_fewestToRow cX0_fewestToRow 13 (some .int) 2 0 0 (fun r9 w9 => r9 = some (.int r) ∧ w9 = wW s) 0 0 (wW s) 52 [some (.ref 1), some (.int x1), some (.int x2), some (.int x3), some (.ref 1000), some (.int x5), some (.int x6), none, some (.int x8), some (.int x9), some (.int x10), none, none] [] := by
  intro φ
  induction φ with
  | zero =>
    intro x1 x2 x3 x5 x6 x8 x9 x10 h
    exact absurd h (by intro h0; cases h0)
  | succ φ ih =>
    intro x1 x2 x3 x5 x6 x8 x9 x10 h
    rw [f_X0_fewestToRow_52] at h
    refine go_iload (q := 54) dX0_fewestToRow_52 rfl rfl ?_
    refine go_iload (q := 56) dX0_fewestToRow_54 rfl rfl ?_
    refine go_iadd (q := 57) dX0_fewestToRow_56 rfl ?_
    refine go_bipush (v := 20) (q := 59) dX0_fewestToRow_57 (by decide) rfl ?_
    refine go_icmp_ge (tgt := 126) (q := 62) dX0_fewestToRow_59 (by decide) rfl (fun c1 => ?_) (fun c1 => ?_)
    · replace h := g_pos c1 h
      refine go_iinc (v := x6 + 1) (ls2 := [some (.ref 1), some (.int x1), some (.int x2), some (.int x3), some (.ref 1000), some (.int x5), some (.int (x6 + 1)), none, some (.int x8), some (.int x9), some (.int x10), none, none]) (q := 129) dX0_fewestToRow_126 (by decide) rfl rfl rfl rfl ?_
      refine go_goto (tgt := 16) dX0_fewestToRow_129 (by decide) ?_
      refine go_ls (ls2 := [some (.ref 1), some (.int x1), some (.int x2), some (.int x3), some (.ref 1000), some (.int x5), some (.int (x6 + 1)), none, none, none, none, none, none]) ⟨rfl, rfl, rfl, rfl, rfl, rfl, rfl, trivial⟩ ?_
      exact hK16 x1 x2 x3 x5 (x6 + 1) h
    · replace h := g_neg c1 h
      refine go_iload (q := 64) dX0_fewestToRow_62 rfl rfl ?_
      refine go_iload (q := 66) dX0_fewestToRow_64 rfl rfl ?_
      refine go_ishl (q := 67) dX0_fewestToRow_66 rfl ?_
      refine go_istore (ls2 := [some (.ref 1), some (.int x1), some (.int x2), some (.int x3), some (.ref 1000), some (.int x5), some (.int x6), none, some (.int x8), some (.int x9), some (.int x10), some (.int (x8 <<< (x10 &&& 31))), none]) (q := 69) dX0_fewestToRow_67 (by decide) rfl rfl ?_
      refine go_iload (q := 71) dX0_fewestToRow_69 rfl rfl ?_
      refine go_aload_n (q := 72) dX0_fewestToRow_71 rfl rfl ?_
      refine go_get (v := .int (s.1 5)) (q := 75) dX0_fewestToRow_72 fX0_45 (wg_1 _) rfl rfl ?_
      refine go_iconst (v := (-1 : Int32)) (q := 76) dX0_fewestToRow_75 (by decide) rfl ?_
      refine go_ixor (q := 77) dX0_fewestToRow_76 rfl ?_
      refine go_iand (q := 78) dX0_fewestToRow_77 rfl ?_
      refine go_if_ne (tgt := 120) (q := 81) dX0_fewestToRow_78 (by decide) rfl (fun c2 => ?_) (fun c2 => ?_)
      · replace h := g_neg c2 h
        refine go_ls (ls2 := [some (.ref 1), some (.int x1), some (.int x2), some (.int x3), some (.ref 1000), some (.int x5), some (.int x6), none, some (.int x8), some (.int x9), some (.int x10), none, none]) ⟨rfl, rfl, rfl, rfl, rfl, rfl, rfl, rfl, rfl, rfl, trivial⟩ ?_
        exact b_X0_fewestToRow_120 K16 (f_X0_fewestToRow_52 K16 φ) s r hK16 (fun x1 x2 x3 x5 x6 x8 x9 x10 h => ih x1 x2 x3 x5 x6 x8 x9 x10 h) x1 x2 x3 x5 x6 x8 x9 x10 h
      · replace h := g_pos c2 h
        refine go_iload (q := 83) dX0_fewestToRow_81 rfl rfl ?_
        refine go_iload_n (q := 84) dX0_fewestToRow_83 rfl rfl ?_
        refine go_iand (q := 85) dX0_fewestToRow_84 rfl ?_
        refine go_if_ne (tgt := 120) (q := 88) dX0_fewestToRow_85 (by decide) rfl (fun c3 => ?_) (fun c3 => ?_)
        · replace h := g_neg c3 h
          refine go_ls (ls2 := [some (.ref 1), some (.int x1), some (.int x2), some (.int x3), some (.ref 1000), some (.int x5), some (.int x6), none, some (.int x8), some (.int x9), some (.int x10), none, none]) ⟨rfl, rfl, rfl, rfl, rfl, rfl, rfl, rfl, rfl, rfl, trivial⟩ ?_
          exact b_X0_fewestToRow_120 K16 (f_X0_fewestToRow_52 K16 φ) s r hK16 (fun x1 x2 x3 x5 x6 x8 x9 x10 h => ih x1 x2 x3 x5 x6 x8 x9 x10 h) x1 x2 x3 x5 x6 x8 x9 x10 h
        · replace h := g_pos c3 h
          refine go_aload_n (q := 89) dX0_fewestToRow_88 rfl rfl ?_
          refine go_iload (q := 91) dX0_fewestToRow_89 rfl rfl ?_
          refine go_iload_n (q := 92) dX0_fewestToRow_91 rfl rfl ?_
          refine go_iconst (v := (-1 : Int32)) (q := 93) dX0_fewestToRow_92 (by decide) rfl ?_
          refine go_ixor (q := 94) dX0_fewestToRow_93 rfl ?_
          refine go_iand (q := 95) dX0_fewestToRow_94 rfl ?_
          refine go_aload_n (q := 96) dX0_fewestToRow_95 rfl rfl ?_
          refine go_get (v := .int (s.1 5)) (q := 99) dX0_fewestToRow_96 fX0_45 (wg_1 _) rfl rfl ?_
          refine go_iload_n (q := 100) dX0_fewestToRow_99 rfl rfl ?_
          refine go_iload_n (q := 101) dX0_fewestToRow_100 rfl rfl ?_
          refine go_ior (q := 102) dX0_fewestToRow_101 rfl ?_
          refine go_iconst (v := (-1 : Int32)) (q := 103) dX0_fewestToRow_102 (by decide) rfl ?_
          refine go_ixor (q := 104) dX0_fewestToRow_103 rfl ?_
          refine go_iand (q := 105) dX0_fewestToRow_104 rfl ?_
          obtain ⟨r4, e5, h⟩ := g_bind h
          refine go_callV0 (q := 108) (as := [.int ((x8 <<< (x10 &&& 31)) &&& (x1 ^^^ (-1 : Int32))), .int ((s.1 5) &&& ((x1 ||| x2) ^^^ (-1 : Int32)))]) (rest := []) (st2 := [.int r4]) (w2 := wW s) dX0_fewestToRow_105 cX0_70 (t_X0_withSupports s ((x8 <<< (x10 &&& 31)) &&& (x1 ^^^ (-1 : Int32))) ((s.1 5) &&& ((x1 ||| x2) ^^^ (-1 : Int32))) _ e5) (wg_1 _) rfl rfl rfl (Nat.le_of_ble_eq_true rfl) (by decide) ⟨Nat.le_refl _, Nat.le_refl _⟩ rfl rfl ?_
          refine go_istore (ls2 := [some (.ref 1), some (.int x1), some (.int x2), some (.int x3), some (.ref 1000), some (.int x5), some (.int x6), none, some (.int x8), some (.int x9), some (.int x10), some (.int (x8 <<< (x10 &&& 31))), some (.int r4)]) (q := 110) dX0_fewestToRow_108 (by decide) rfl rfl ?_
          refine go_iload_n (q := 111) dX0_fewestToRow_110 rfl rfl ?_
          refine go_iload (q := 113) dX0_fewestToRow_111 rfl rfl ?_
          obtain ⟨r6, e7, h⟩ := g_bind h
          refine go_callS0 (q := 116) (as := [.int r4]) (rest := [.int x3]) (st2 := [.int r6, .int x3]) (w2 := wW s) dX0_fewestToRow_113 cX0_58 (t_J6_bitCount_0f7a4 _ r4 _ e7) rfl rfl (Nat.le_of_ble_eq_true rfl) (by decide) ⟨Nat.le_refl _, Nat.le_refl _⟩ rfl rfl ?_
          refine go_mmin (q := 119) dX0_fewestToRow_116 cmX0_73 (by decide) (Nat.le_of_ble_eq_true rfl) ⟨Nat.le_refl _, Nat.le_refl _⟩ rfl ?_
          refine go_istore_n (ls2 := [some (.ref 1), some (.int x1), some (.int x2), some (.int (if r6 < x3 then r6 else x3)), some (.ref 1000), some (.int x5), some (.int x6), none, some (.int x8), some (.int x9), some (.int x10), some (.int (x8 <<< (x10 &&& 31))), some (.int r4)]) (q := 120) dX0_fewestToRow_119 (by decide) rfl rfl ?_
          refine go_ls (ls2 := [some (.ref 1), some (.int x1), some (.int x2), some (.int (if r6 < x3 then r6 else x3)), some (.ref 1000), some (.int x5), some (.int x6), none, some (.int x8), some (.int x9), some (.int x10), none, none]) ⟨rfl, rfl, rfl, rfl, rfl, rfl, rfl, rfl, rfl, rfl, trivial⟩ ?_
          exact b_X0_fewestToRow_120 K16 (f_X0_fewestToRow_52 K16 φ) s r hK16 (fun x1 x2 x3 x5 x6 x8 x9 x10 h => ih x1 x2 x3 x5 x6 x8 x9 x10 h) x1 x2 (if r6 < x3 then r6 else x3) x5 x6 x8 x9 x10 h
def f_X0_fewestToRow_16 : Nat → gS → Int32 → Int32 → Int32 → Int32 → Int32 → Option Int32
  | 0, _, _, _, _, _, _ => none
  | φ + 1, s, x1, x2, x3, x5, x6 =>
    if x5 ≤ x6 then
      some x3
    else
      if inB x6 4 = true then
        (f_X0_lineAlong s (gSteps x6.toNatClampNeg)).bind fun r3 =>
        f_X0_fewestToRow_52 (f_X0_fewestToRow_16 φ) gφ s x1 x2 x3 x5 x6 r3 (((s.1 2) - 1) * (gSteps x6.toNatClampNeg)) 0
      else none
set_option maxHeartbeats 4000000 in
set_option maxRecDepth 100000 in
theorem b_X0_fewestToRow_16 (s : gS) (r : Int32) : ∀ (φ : Nat) (x1 : Int32) (x2 : Int32) (x3 : Int32) (x5 : Int32) (x6 : Int32) , f_X0_fewestToRow_16 φ s x1 x2 x3 x5 x6 = some r → Go gTr yX0_fewestToRow cX0_fewestToRow 13 (some .int) 2 0 0 (fun r9 w9 => r9 = some (.int r) ∧ w9 = wW s) 0 0 (wW s) 16 [some (.ref 1), some (.int x1), some (.int x2), some (.int x3), some (.ref 1000), some (.int x5), some (.int x6), none, none, none, none, none, none] [] := by
  intro φ
  induction φ with
  | zero =>
    intro x1 x2 x3 x5 x6 h
    exact absurd h (by intro h0; cases h0)
  | succ φ ih =>
    intro x1 x2 x3 x5 x6 h
    rw [f_X0_fewestToRow_16] at h
    refine go_iload (q := 18) dX0_fewestToRow_16 rfl rfl ?_
    refine go_iload (q := 20) dX0_fewestToRow_18 rfl rfl ?_
    refine go_icmp_ge (tgt := 132) (q := 23) dX0_fewestToRow_20 (by decide) rfl (fun c1 => ?_) (fun c1 => ?_)
    · replace h := g_pos c1 h
      refine go_iload_n (q := 133) dX0_fewestToRow_132 rfl rfl ?_
      cases h
      exact go_iret dX0_fewestToRow_133 rfl rfl (Nat.le_refl _) (Nat.le_refl _) ⟨rfl, rfl⟩
    · replace h := g_neg c1 h
      refine go_aload (q := 25) dX0_fewestToRow_23 rfl rfl ?_
      refine go_iload (q := 27) dX0_fewestToRow_25 rfl rfl ?_
      obtain ⟨g2, h⟩ := g_guard h
      refine go_sald (q := 28) dX0_fewestToRow_27 (inB_in g2) rfl ?_
      refine go_istore (ls2 := [some (.ref 1), some (.int x1), some (.int x2), some (.int x3), some (.ref 1000), some (.int x5), some (.int x6), some (.int (gSteps x6.toNatClampNeg)), none, none, none, none, none]) (q := 30) dX0_fewestToRow_28 (by decide) rfl rfl ?_
      refine go_aload_n (q := 31) dX0_fewestToRow_30 rfl rfl ?_
      refine go_iload (q := 33) dX0_fewestToRow_31 rfl rfl ?_
      obtain ⟨r3, e4, h⟩ := g_bind h
      refine go_callV0 (q := 36) (as := [.int (gSteps x6.toNatClampNeg)]) (rest := []) (st2 := [.int r3]) (w2 := wW s) dX0_fewestToRow_33 cX0_67 (t_X0_lineAlong s (gSteps x6.toNatClampNeg) _ e4) (wg_1 _) rfl rfl rfl (Nat.le_of_ble_eq_true rfl) (by decide) ⟨Nat.le_refl _, Nat.le_refl _⟩ rfl rfl ?_
      refine go_istore (ls2 := [some (.ref 1), some (.int x1), some (.int x2), some (.int x3), some (.ref 1000), some (.int x5), some (.int x6), some (.int (gSteps x6.toNatClampNeg)), some (.int r3), none, none, none, none]) (q := 38) dX0_fewestToRow_36 (by decide) rfl rfl ?_
      refine go_aload_n (q := 39) dX0_fewestToRow_38 rfl rfl ?_
      refine go_get (v := .int (s.1 2)) (q := 42) dX0_fewestToRow_39 fX0_32 (wg_1 _) rfl rfl ?_
      refine go_iconst (v := 1) (q := 43) dX0_fewestToRow_42 (by decide) rfl ?_
      refine go_isub (q := 44) dX0_fewestToRow_43 rfl ?_
      refine go_iload (q := 46) dX0_fewestToRow_44 rfl rfl ?_
      refine go_imul (q := 47) dX0_fewestToRow_46 rfl ?_
      refine go_istore (ls2 := [some (.ref 1), some (.int x1), some (.int x2), some (.int x3), some (.ref 1000), some (.int x5), some (.int x6), some (.int (gSteps x6.toNatClampNeg)), some (.int r3), some (.int (((s.1 2) - 1) * (gSteps x6.toNatClampNeg))), none, none, none]) (q := 49) dX0_fewestToRow_47 (by decide) rfl rfl ?_
      refine go_iconst (v := 0) (q := 50) dX0_fewestToRow_49 (by decide) rfl ?_
      refine go_istore (ls2 := [some (.ref 1), some (.int x1), some (.int x2), some (.int x3), some (.ref 1000), some (.int x5), some (.int x6), some (.int (gSteps x6.toNatClampNeg)), some (.int r3), some (.int (((s.1 2) - 1) * (gSteps x6.toNatClampNeg))), some (.int 0), none, none]) (q := 52) dX0_fewestToRow_50 (by decide) rfl rfl ?_
      refine go_ls (ls2 := [some (.ref 1), some (.int x1), some (.int x2), some (.int x3), some (.ref 1000), some (.int x5), some (.int x6), none, some (.int r3), some (.int (((s.1 2) - 1) * (gSteps x6.toNatClampNeg))), some (.int 0), none, none]) ⟨rfl, rfl, rfl, rfl, rfl, rfl, rfl, rfl, rfl, rfl, trivial⟩ ?_
      exact b_X0_fewestToRow_52 (f_X0_fewestToRow_16 φ) s r (fun x1 x2 x3 x5 x6 h => ih x1 x2 x3 x5 x6 h) gφ x1 x2 x3 x5 x6 r3 (((s.1 2) - 1) * (gSteps x6.toNatClampNeg)) 0 h
def f_X0_fewestToRow (s : gS) (x1 : Int32) (x2 : Int32) : Option Int32 :=
  f_X0_fewestToRow_16 gφ s x1 x2 17 4 0
set_option maxHeartbeats 4000000 in
set_option maxRecDepth 100000 in
theorem b_X0_fewestToRow (s : gS) (r : Int32) : ∀ (x1 : Int32) (x2 : Int32) , f_X0_fewestToRow s x1 x2 = some r → Go gTr yX0_fewestToRow cX0_fewestToRow 13 (some .int) 2 0 0 (fun r9 w9 => r9 = some (.int r) ∧ w9 = wW s) 0 0 (wW s) 0 [some (.ref 1), some (.int x1), some (.int x2), none, none, none, none, none, none, none, none, none, none] [] := by
  intro x1 x2 h
  rw [f_X0_fewestToRow] at h
  refine go_bipush (v := 17) (q := 2) dX0_fewestToRow_0 (by decide) rfl ?_
  refine go_istore_n (ls2 := [some (.ref 1), some (.int x1), some (.int x2), some (.int 17), none, none, none, none, none, none, none, none, none]) (q := 3) dX0_fewestToRow_2 (by decide) rfl rfl ?_
  refine go_steps (q := 6) dX0_fewestToRow_3 fX0_63 rfl ?_
  refine go_astore (ls2 := [some (.ref 1), some (.int x1), some (.int x2), some (.int 17), some (.ref 1000), none, none, none, none, none, none, none, none]) (q := 8) dX0_fewestToRow_6 (by decide) rfl rfl ?_
  refine go_aload (q := 10) dX0_fewestToRow_8 rfl rfl ?_
  refine go_slen (q := 11) dX0_fewestToRow_10 rfl ?_
  refine go_istore (ls2 := [some (.ref 1), some (.int x1), some (.int x2), some (.int 17), some (.ref 1000), some (.int 4), none, none, none, none, none, none, none]) (q := 13) dX0_fewestToRow_11 (by decide) rfl rfl ?_
  refine go_iconst (v := 0) (q := 14) dX0_fewestToRow_13 (by decide) rfl ?_
  refine go_istore (ls2 := [some (.ref 1), some (.int x1), some (.int x2), some (.int 17), some (.ref 1000), some (.int 4), some (.int 0), none, none, none, none, none, none]) (q := 16) dX0_fewestToRow_14 (by decide) rfl rfl ?_
  refine go_ls (ls2 := [some (.ref 1), some (.int x1), some (.int x2), some (.int 17), some (.ref 1000), some (.int 4), some (.int 0), none, none, none, none, none, none]) ⟨rfl, rfl, rfl, rfl, rfl, rfl, rfl, trivial⟩ ?_
  exact b_X0_fewestToRow_16 s r gφ x1 x2 17 4 0 h
theorem t_X0_fewestToRow (s : gS) (x1 : Int32) (x2 : Int32) (r : Int32) (h : f_X0_fewestToRow s x1 x2 = some r) : Cal 2 mX0_fewestToRow [.ref 1, .int x1, .int x2] (wW s) 0 0 (some (.int r)) (wW s) := Cal.of (by decide) (g_cats rfl) (Nat.le_of_ble_eq_true rfl) (b_X0_fewestToRow s r x1 x2 h)
def f_X0_isSide (x0 : Int32) : Option Int32 :=
  if x0 < 2 then
    some 0
  else
    if 4 < x0 then
      some 0
    else
      some 1
set_option maxHeartbeats 4000000 in
set_option maxRecDepth 100000 in
theorem b_X0_isSide (w : List va_E) (r : Int32) : ∀ (x0 : Int32) , f_X0_isSide x0 = some r → Go gTr yX0_isSide cX0_isSide 1 (some .boolean) 1 0 0 (fun r9 w9 => r9 = some (.int r) ∧ w9 = w) 0 0 w 0 [some (.int x0)] [] := by
  intro x0 h
  rw [f_X0_isSide] at h
  refine go_iload_n (q := 1) dX0_isSide_0 rfl rfl ?_
  refine go_iconst (v := 2) (q := 2) dX0_isSide_1 (by decide) rfl ?_
  refine go_icmp_lt (tgt := 14) (q := 5) dX0_isSide_2 (by decide) rfl (fun c1 => ?_) (fun c1 => ?_)
  · replace h := g_pos c1 h
    refine go_iconst (v := 0) (q := 15) dX0_isSide_14 (by decide) rfl ?_
    cases h
    exact go_iret dX0_isSide_15 rfl rfl (Nat.le_refl _) (Nat.le_refl _) ⟨rfl, rfl⟩
  · replace h := g_neg c1 h
    refine go_iload_n (q := 6) dX0_isSide_5 rfl rfl ?_
    refine go_iconst (v := 4) (q := 7) dX0_isSide_6 (by decide) rfl ?_
    refine go_icmp_gt (tgt := 14) (q := 10) dX0_isSide_7 (by decide) rfl (fun c2 => ?_) (fun c2 => ?_)
    · replace h := g_pos c2 h
      refine go_iconst (v := 0) (q := 15) dX0_isSide_14 (by decide) rfl ?_
      cases h
      exact go_iret dX0_isSide_15 rfl rfl (Nat.le_refl _) (Nat.le_refl _) ⟨rfl, rfl⟩
    · replace h := g_neg c2 h
      refine go_iconst (v := 1) (q := 11) dX0_isSide_10 (by decide) rfl ?_
      refine go_goto (tgt := 15) dX0_isSide_11 (by decide) ?_
      cases h
      exact go_iret dX0_isSide_15 rfl rfl (Nat.le_refl _) (Nat.le_refl _) ⟨rfl, rfl⟩
theorem t_X0_isSide (w : List va_E) (x0 : Int32) (r : Int32) (h : f_X0_isSide x0 = some r) : Cal 1 mX0_isSide [.int x0] w 0 0 (some (.int r)) w := Cal.of (by decide) (g_cats rfl) (Nat.le_of_ble_eq_true rfl) (b_X0_isSide w r x0 h)
def f_X0_lay_76 : Nat → gS → Int32 → Int32 → Option (Int32 × gS)
  | 0, _, _, _ => none
  | φ + 1, s, x2, x6 =>
    if x2 ≤ x6 then
      some (1, s)
    else
      f_X0_lay_76 φ (ss s 5 ((s.1 5) ||| ((s.1 6) <<< ((x6 * 5) &&& 31)))) x2 (x6 + 1)
set_option maxHeartbeats 4000000 in
set_option maxRecDepth 100000 in
theorem b_X0_lay_76 (r : Int32 × gS) : ∀ (φ : Nat) (s : gS) (x2 : Int32) (x6 : Int32) , f_X0_lay_76 φ s x2 x6 = some r → Go gTr yX0_lay cX0_lay 7 (some .boolean) 2 0 0 (fun r9 w9 => r9 = some (.int r.1) ∧ w9 = wW r.2) 0 0 (wW s) 76 [some (.ref 1), none, some (.int x2), none, none, none, some (.int x6)] [] := by
  intro φ
  induction φ with
  | zero =>
    intro s x2 x6 h
    exact absurd h (by intro h0; cases h0)
  | succ φ ih =>
    intro s x2 x6 h
    rw [f_X0_lay_76] at h
    refine go_iload (q := 78) dX0_lay_76 rfl rfl ?_
    refine go_iload_n (q := 79) dX0_lay_78 rfl rfl ?_
    refine go_icmp_ge (tgt := 106) (q := 82) dX0_lay_79 (by decide) rfl (fun c1 => ?_) (fun c1 => ?_)
    · replace h := g_pos c1 h
      refine go_iconst (v := 1) (q := 107) dX0_lay_106 (by decide) rfl ?_
      cases h
      exact go_iret dX0_lay_107 rfl rfl (Nat.le_refl _) (Nat.le_refl _) ⟨rfl, rfl⟩
    · replace h := g_neg c1 h
      refine go_aload_n (q := 83) dX0_lay_82 rfl rfl ?_
      refine go_dup (q := 84) dX0_lay_83 rfl rfl ?_
      refine go_get (v := .int (s.1 5)) (q := 87) dX0_lay_84 fX0_45 (wg_1 _) rfl rfl ?_
      refine go_aload_n (q := 88) dX0_lay_87 rfl rfl ?_
      refine go_get (v := .int (s.1 6)) (q := 91) dX0_lay_88 fX0_42 (wg_1 _) rfl rfl ?_
      refine go_iload (q := 93) dX0_lay_91 rfl rfl ?_
      refine go_iconst (v := 5) (q := 94) dX0_lay_93 (by decide) rfl ?_
      refine go_imul (q := 95) dX0_lay_94 rfl ?_
      refine go_ishl (q := 96) dX0_lay_95 rfl ?_
      refine go_ior (q := 97) dX0_lay_96 rfl ?_
      refine go_put (w2 := wW (ss s 5 ((s.1 5) ||| ((s.1 6) <<< ((x6 * 5) &&& 31))))) (q := 100) dX0_lay_97 fX0_45 (wg_1 _) (Nat.le_of_ble_eq_true rfl) (fun _ => rfl) (fun _ => rfl) (wp_1_5 _ _) rfl ?_
      refine go_iinc (v := x6 + 1) (ls2 := [some (.ref 1), none, some (.int x2), none, none, none, some (.int (x6 + 1))]) (q := 103) dX0_lay_100 (by decide) rfl rfl rfl rfl ?_
      refine go_goto (tgt := 76) dX0_lay_103 (by decide) ?_
      refine go_ls (ls2 := [some (.ref 1), none, some (.int x2), none, none, none, some (.int (x6 + 1))]) ⟨rfl, rfl, rfl, trivial⟩ ?_
      exact ih (ss s 5 ((s.1 5) ||| ((s.1 6) <<< ((x6 * 5) &&& 31)))) x2 (x6 + 1) h
def f_X0_lay (s : gS) (x1 : Int32) (x2 : Int32) (x3 : Int32) (x4 : Int32) (x5 : Int32) : Option (Int32 × gS) :=
  (f_X0_isSide x1).bind fun r1 =>
  if r1 = 0 then
    some (0, s)
  else
    (f_X0_isSide x2).bind fun r4 =>
    if r4 = 0 then
      some (0, s)
    else
      (f_X0_isSide x3).bind fun r7 =>
      if r7 = 0 then
        some (0, s)
      else
        if x3 ≤ (if x1 < x2 then x2 else x1) then
          if isZ x4 = true then
            if isZ x5 = true then
              f_X0_lay_76 gφ (ss (ss (ss (ss (ss (ss (ss s 0 x1) 1 x2) 2 x3) 3 x4) 4 x5) 6 ((1 <<< (x1 &&& 31)) - 1)) 5 0) x2 0
            else none
          else none
        else
          some (0, s)
set_option maxHeartbeats 4000000 in
set_option maxRecDepth 100000 in
theorem b_X0_lay (r : Int32 × gS) : ∀ (s : gS) (x1 : Int32) (x2 : Int32) (x3 : Int32) (x4 : Int32) (x5 : Int32) , f_X0_lay s x1 x2 x3 x4 x5 = some r → Go gTr yX0_lay cX0_lay 7 (some .boolean) 2 0 0 (fun r9 w9 => r9 = some (.int r.1) ∧ w9 = wW r.2) 0 0 (wW s) 0 [some (.ref 1), some (.int x1), some (.int x2), some (.int x3), some (.int x4), some (.int x5), none] [] := by
  intro s x1 x2 x3 x4 x5 h
  rw [f_X0_lay] at h
  refine go_iload_n (q := 1) dX0_lay_0 rfl rfl ?_
  obtain ⟨r1, e2, h⟩ := g_bind h
  refine go_callS0 (q := 4) (as := [.int x1]) (rest := []) (st2 := [.int r1]) (w2 := wW s) dX0_lay_1 cX0_15 (t_X0_isSide _ x1 _ e2) rfl rfl (Nat.le_of_ble_eq_true rfl) (by decide) ⟨Nat.le_refl _, Nat.le_refl _⟩ rfl rfl ?_
  refine go_if_eq (tgt := 30) (q := 7) dX0_lay_4 (by decide) rfl (fun c3 => ?_) (fun c3 => ?_)
  · replace h := g_pos c3 h
    refine go_iconst (v := 0) (q := 31) dX0_lay_30 (by decide) rfl ?_
    cases h
    exact go_iret dX0_lay_31 rfl rfl (Nat.le_refl _) (Nat.le_refl _) ⟨rfl, rfl⟩
  · replace h := g_neg c3 h
    refine go_iload_n (q := 8) dX0_lay_7 rfl rfl ?_
    obtain ⟨r4, e5, h⟩ := g_bind h
    refine go_callS0 (q := 11) (as := [.int x2]) (rest := []) (st2 := [.int r4]) (w2 := wW s) dX0_lay_8 cX0_15 (t_X0_isSide _ x2 _ e5) rfl rfl (Nat.le_of_ble_eq_true rfl) (by decide) ⟨Nat.le_refl _, Nat.le_refl _⟩ rfl rfl ?_
    refine go_if_eq (tgt := 30) (q := 14) dX0_lay_11 (by decide) rfl (fun c6 => ?_) (fun c6 => ?_)
    · replace h := g_pos c6 h
      refine go_iconst (v := 0) (q := 31) dX0_lay_30 (by decide) rfl ?_
      cases h
      exact go_iret dX0_lay_31 rfl rfl (Nat.le_refl _) (Nat.le_refl _) ⟨rfl, rfl⟩
    · replace h := g_neg c6 h
      refine go_iload_n (q := 15) dX0_lay_14 rfl rfl ?_
      obtain ⟨r7, e8, h⟩ := g_bind h
      refine go_callS0 (q := 18) (as := [.int x3]) (rest := []) (st2 := [.int r7]) (w2 := wW s) dX0_lay_15 cX0_15 (t_X0_isSide _ x3 _ e8) rfl rfl (Nat.le_of_ble_eq_true rfl) (by decide) ⟨Nat.le_refl _, Nat.le_refl _⟩ rfl rfl ?_
      refine go_if_eq (tgt := 30) (q := 21) dX0_lay_18 (by decide) rfl (fun c9 => ?_) (fun c9 => ?_)
      · replace h := g_pos c9 h
        refine go_iconst (v := 0) (q := 31) dX0_lay_30 (by decide) rfl ?_
        cases h
        exact go_iret dX0_lay_31 rfl rfl (Nat.le_refl _) (Nat.le_refl _) ⟨rfl, rfl⟩
      · replace h := g_neg c9 h
        refine go_iload_n (q := 22) dX0_lay_21 rfl rfl ?_
        refine go_iload_n (q := 23) dX0_lay_22 rfl rfl ?_
        refine go_iload_n (q := 24) dX0_lay_23 rfl rfl ?_
        refine go_mmax (q := 27) dX0_lay_24 cmX0_19 (by decide) (Nat.le_of_ble_eq_true rfl) ⟨Nat.le_refl _, Nat.le_refl _⟩ rfl ?_
        refine go_icmp_le (tgt := 32) (q := 30) dX0_lay_27 (by decide) rfl (fun c10 => ?_) (fun c10 => ?_)
        · replace h := g_pos c10 h
          refine go_aload_n (q := 33) dX0_lay_32 rfl rfl ?_
          refine go_iload_n (q := 34) dX0_lay_33 rfl rfl ?_
          refine go_put (w2 := wW (ss s 0 x1)) (q := 37) dX0_lay_34 fX0_25 (wg_1 _) (Nat.le_of_ble_eq_true rfl) (fun _ => rfl) (fun _ => rfl) (wp_1_0 _ _) rfl ?_
          refine go_aload_n (q := 38) dX0_lay_37 rfl rfl ?_
          refine go_iload_n (q := 39) dX0_lay_38 rfl rfl ?_
          refine go_put (w2 := wW (ss (ss s 0 x1) 1 x2)) (q := 42) dX0_lay_39 fX0_29 (wg_1 _) (Nat.le_of_ble_eq_true rfl) (fun _ => rfl) (fun _ => rfl) (wp_1_1 _ _) rfl ?_
          refine go_aload_n (q := 43) dX0_lay_42 rfl rfl ?_
          refine go_iload_n (q := 44) dX0_lay_43 rfl rfl ?_
          refine go_put (w2 := wW (ss (ss (ss s 0 x1) 1 x2) 2 x3)) (q := 47) dX0_lay_44 fX0_32 (wg_1 _) (Nat.le_of_ble_eq_true rfl) (fun _ => rfl) (fun _ => rfl) (wp_1_2 _ _) rfl ?_
          refine go_aload_n (q := 48) dX0_lay_47 rfl rfl ?_
          refine go_iload (q := 50) dX0_lay_48 rfl rfl ?_
          obtain ⟨g11, h⟩ := g_guard h
          refine go_put (w2 := wW (ss (ss (ss (ss s 0 x1) 1 x2) 2 x3) 3 x4)) (q := 53) dX0_lay_50 fX0_35 (wg_1 _) (Nat.le_of_ble_eq_true rfl) (fun _ => isZ_nar g11) (fun _ => isZ_fit g11) (wp_1_3 _ _) rfl ?_
          refine go_aload_n (q := 54) dX0_lay_53 rfl rfl ?_
          refine go_iload (q := 56) dX0_lay_54 rfl rfl ?_
          obtain ⟨g12, h⟩ := g_guard h
          refine go_put (w2 := wW (ss (ss (ss (ss (ss s 0 x1) 1 x2) 2 x3) 3 x4) 4 x5)) (q := 59) dX0_lay_56 fX0_39 (wg_1 _) (Nat.le_of_ble_eq_true rfl) (fun _ => isZ_nar g12) (fun _ => isZ_fit g12) (wp_1_4 _ _) rfl ?_
          refine go_aload_n (q := 60) dX0_lay_59 rfl rfl ?_
          refine go_iconst (v := 1) (q := 61) dX0_lay_60 (by decide) rfl ?_
          refine go_iload_n (q := 62) dX0_lay_61 rfl rfl ?_
          refine go_ishl (q := 63) dX0_lay_62 rfl ?_
          refine go_iconst (v := 1) (q := 64) dX0_lay_63 (by decide) rfl ?_
          refine go_isub (q := 65) dX0_lay_64 rfl ?_
          refine go_put (w2 := wW (ss (ss (ss (ss (ss (ss s 0 x1) 1 x2) 2 x3) 3 x4) 4 x5) 6 ((1 <<< (x1 &&& 31)) - 1))) (q := 68) dX0_lay_65 fX0_42 (wg_1 _) (Nat.le_of_ble_eq_true rfl) (fun _ => rfl) (fun _ => rfl) (wp_1_6 _ _) rfl ?_
          refine go_aload_n (q := 69) dX0_lay_68 rfl rfl ?_
          refine go_iconst (v := 0) (q := 70) dX0_lay_69 (by decide) rfl ?_
          refine go_put (w2 := wW (ss (ss (ss (ss (ss (ss (ss s 0 x1) 1 x2) 2 x3) 3 x4) 4 x5) 6 ((1 <<< (x1 &&& 31)) - 1)) 5 0)) (q := 73) dX0_lay_70 fX0_45 (wg_1 _) (Nat.le_of_ble_eq_true rfl) (fun _ => rfl) (fun _ => rfl) (wp_1_5 _ _) rfl ?_
          refine go_iconst (v := 0) (q := 74) dX0_lay_73 (by decide) rfl ?_
          refine go_istore (ls2 := [some (.ref 1), some (.int x1), some (.int x2), some (.int x3), some (.int x4), some (.int x5), some (.int 0)]) (q := 76) dX0_lay_74 (by decide) rfl rfl ?_
          refine go_ls (ls2 := [some (.ref 1), none, some (.int x2), none, none, none, some (.int 0)]) ⟨rfl, rfl, rfl, trivial⟩ ?_
          exact b_X0_lay_76 r gφ (ss (ss (ss (ss (ss (ss (ss s 0 x1) 1 x2) 2 x3) 3 x4) 4 x5) 6 ((1 <<< (x1 &&& 31)) - 1)) 5 0) x2 0 h
        · replace h := g_neg c10 h
          refine go_iconst (v := 0) (q := 31) dX0_lay_30 (by decide) rfl ?_
          cases h
          exact go_iret dX0_lay_31 rfl rfl (Nat.le_refl _) (Nat.le_refl _) ⟨rfl, rfl⟩
theorem t_X0_lay (s : gS) (x1 : Int32) (x2 : Int32) (x3 : Int32) (x4 : Int32) (x5 : Int32) (r : Int32 × gS) (h : f_X0_lay s x1 x2 x3 x4 x5 = some r) : Cal 2 mX0_lay [.ref 1, .int x1, .int x2, .int x3, .int x4, .int x5] (wW s) 0 0 (some (.int r.1)) (wW r.2) := Cal.of (by decide) (g_cats rfl) (Nat.le_of_ble_eq_true rfl) (b_X0_lay r s x1 x2 x3 x4 x5 h)
