theorem bt_sar (a : Int32) {j : Nat} (hj : j < 32) (i : Nat) (h : j + i < 32) : bt (a >>> (zI (j : Int) &&& 31)) i = bt a (j + i) := by
  show (a.toBitVec.sshiftRight' ((zI (j : Int) &&& 31).toBitVec.smod 32)).getLsbD i = _
  rw [BitVec.sshiftRight_eq', shl_amt ⟨j, hj⟩, BitVec.getLsbD_sshiftRight, if_pos h, decide_eq_false (by omega)]
  rfl
theorem bt_z {X : Nat} (hX : X < 2147483648) (i : Nat) : bt (zI (X : Int)) i = X.testBit i := by
  rw [bt_t9, t9_z (by omega)]
theorem sar_bit {X i : Nat} (hX : X < 2147483648) (hi : i < 32) : (zI (X : Int) >>> (zI (i : Int) &&& 31)) &&& 1 = if X.testBit i = true then (1 : Int32) else 0 := by
  apply bt_ext
  intro j hj
  rw [bt_and, bt_1]
  by_cases e : j = 0
  · subst e
    rw [bt_sar _ hi 0 (by omega), bt_z hX, Nat.add_zero]
    cases X.testBit i with
    | false => rw [if_neg (by decide), bt_0]; rfl
    | true => rw [if_pos rfl, bt_1]; rfl
  · rw [decide_eq_false e, Bool.and_false]
    cases X.testBit i with
    | false => rw [if_neg (by decide), bt_0]
    | true => rw [if_pos rfl, bt_1, decide_eq_false e]
theorem m_earl1 {X Y : Nat} (hX : X < 4096) (hY : Y < 4096) : ∀ (m i φ : Nat), i + m = 12 → m < φ → f_X9_isEarlier_2 φ (zI X) (zI Y) (zI i) = some (if smK rhK Y.testBit i m < smK rhK X.testBit i m then 1 else 0)
  | 0, i, φ, hi, hf => by
    obtain ⟨φ, rfl⟩ : ∃ m, φ = m + 1 := ⟨φ - 1, by omega⟩
    have l : (12 : Int32) ≤ zI (i : Int) := by rw [zI_12, zI_le (by omega) (by omega) (by omega) (by omega)]; omega
    rw [f_X9_isEarlier_2, if_pos l, smK_0, smK_0, if_neg (by omega)]
    unfold f_X9_isEarlier_28
    rw [if_pos l]
  | m + 1, i, φ, hi, hf => by
    obtain ⟨φ, rfl⟩ : ∃ m, φ = m + 1 := ⟨φ - 1, by omega⟩
    have l : ¬ (12 : Int32) ≤ zI (i : Int) := by rw [zI_12, zI_le (by omega) (by omega) (by omega) (by omega)]; omega
    have a := rhK_lt X.testBit (m := m) (i := i) (by omega)
    have b := rhK_lt Y.testBit (m := m) (i := i) (by omega)
    rw [f_X9_isEarlier_2, if_neg l, sar_bit (by omega) (by omega), sar_bit (by omega) (by omega), smK_s, smK_s]
    unfold f_X9_isEarlier_28
    rw [if_neg l, sar_bit (by omega) (by omega)]
    cases c1 : X.testBit i with
    | true =>
      cases c2 : Y.testBit i with
      | true =>
        rw [if_pos rfl, if_pos rfl, zsuc, m_earl1 hX hY m (i + 1) φ (by omega) (by omega)]
        by_cases g : smK rhK Y.testBit (i + 1) m < smK rhK X.testBit (i + 1) m
        · rw [if_pos g, if_pos (by omega)]
        · rw [if_neg g, if_neg (by omega)]
      | false =>
        simp only [↓reduceIte, Bool.false_eq_true]
        rw [if_neg (by decide), if_pos (by omega)]
    | false =>
      cases c2 : Y.testBit i with
      | true =>
        simp only [↓reduceIte, Bool.false_eq_true]
        rw [if_neg (by decide), if_neg (by decide), if_neg (by omega)]
      | false =>
        simp only [↓reduceIte, Bool.false_eq_true]
        rw [zsuc, m_earl1 hX hY m (i + 1) φ (by omega) (by omega)]
        by_cases g : smK rhK Y.testBit (i + 1) m < smK rhK X.testBit (i + 1) m
        · rw [if_pos g, if_pos (by omega)]
        · rw [if_neg g, if_neg (by omega)]
theorem m_earl {X Y : Nat} (hX : X < 4096) (hY : Y < 4096) : f_X9_isEarlier (zI X) (zI Y) = some (if smK rhK Y.testBit 0 12 < smK rhK X.testBit 0 12 then 1 else 0) := by
  obtain ⟨g, hg⟩ := gf_big
  have h := m_earl1 hX hY 12 0 gφ (by omega) (by omega)
  exact h
theorem smK_app (g : Nat → Int) (f : Nat → Bool) : ∀ (m i d : Nat), (∀ j, i + m ≤ j → f j = false) → smK g f i (m + d) = smK g f i m
  | 0, i, 0, _ => rfl
  | 0, i, d + 1, h => by
    have ih := smK_app g f 0 (i + 1) d (fun j hj => h j (by omega))
    rw [Nat.zero_add] at ih
    rw [Nat.zero_add, smK_s, h i (by omega), if_neg (by decide), ih, smK_0, smK_0]
    rfl
  | m + 1, i, d, h => by
    rw [show m + 1 + d = (m + d) + 1 by omega, smK_s, smK_s, smK_app g f m (i + 1) d (fun j hj => h j (by omega))]
theorem tb_out {X k j : Nat} (hX : X < 2 ^ k) (hj : k ≤ j) : X.testBit j = false := Nat.testBit_lt_two_pow (Nat.lt_of_lt_of_le hX (Nat.pow_le_pow_right (by omega) hj))
/-- what the model does when one choice has been added up -/
def fnK (K27 : gS → Int32 → Int32 → Int32 → Int32 → Int32 → Option (Int32 × gS)) (s : gS) (x1 x2 x3 x4 x5 x6 x7 : Int32) : Option (Int32 × gS) :=
  if x3 < x6 then
    f_X9_chosen_136 K27 s x1 x2 x3 x4 x5 x6 x7
  else
    if x6 = x3 then
      if x7 < x4 then
        f_X9_chosen_136 K27 s x1 x2 x3 x4 x5 x6 x7
      else
        if x7 = x4 then
          (f_X9_isEarlier x5 x2).bind fun r6 =>
          if r6 = 0 then
            f_X9_chosen_140 K27 s x1 x2 x3 x4 x5 x6 x7
          else
            f_X9_chosen_136 K27 s x1 x2 x3 x4 x5 x6 x7
        else
          f_X9_chosen_140 K27 s x1 x2 x3 x4 x5 x6 x7
    else
      f_X9_chosen_140 K27 s x1 x2 x3 x4 x5 x6 x7
theorem m_ch47 {w c : Nat → Int} {nb : Nat → Nat} {k X : Nat} {K : gS → Int32 → Int32 → Int32 → Int32 → Int32 → Option (Int32 × gS)} {s : gS} {x1 x2 x3 x4 : Int32} (hk : OkK w c nb k) (hX : X < 4096) (h30 : s.1 30 = zI k) (hs : ∀ j, j < k → s.2 30 j = zI (w j) ∧ s.2 31 j = zI (c j - 1)) : ∀ (m i φ : Nat) (v n : Int), i + m = k → m < φ → f_X9_chosen_47 K φ s x1 x2 x3 x4 (zI X) (zI v) (zI n) (zI i) = fnK K s x1 x2 x3 x4 (zI X) (zI (v + smK w X.testBit i m)) (zI (n + smK c X.testBit i m))
  | 0, i, φ, v, n, hi, hf => by
    obtain ⟨φ, rfl⟩ : ∃ m, φ = m + 1 := ⟨φ - 1, by omega⟩
    have h12 := hk.1
    rw [f_X9_chosen_47, h30, if_pos (by rw [zI_le (by omega) (by omega) (by omega) (by omega)]; omega), smK_0, smK_0, Int.add_zero, Int.add_zero]
    rfl
  | m + 1, i, φ, v, n, hi, hf => by
    obtain ⟨φ, rfl⟩ : ∃ m, φ = m + 1 := ⟨φ - 1, by omega⟩
    have h12 := hk.1
    obtain ⟨s1, s2⟩ := hs i (by omega)
    have g1 : inB (zI (i : Int)) 12 = true := zin (by omega) (by omega)
    rw [f_X9_chosen_47, h30, if_neg (by rw [zI_le (by omega) (by omega) (by omega) (by omega)]; omega), sar_bit (by omega) (by omega), smK_s, smK_s]
    unfold f_X9_chosen_95
    rw [zsuc]
    cases c1 : X.testBit i with
    | true =>
      simp only [↓reduceIte]
      rw [if_neg (by decide)]
      simp only [g1, ↓reduceIte]
      rw [zcl (by omega), s1, s2, zI_1, zI_add, zI_add, zI_add, m_ch47 hk hX h30 hs m (i + 1) φ _ _ (by omega) (by omega)]
      congr 1 <;> exact zI_c (by omega)
    | false =>
      simp only [↓reduceIte, Bool.false_eq_true]
      rw [m_ch47 hk hX h30 hs m (i + 1) φ _ _ (by omega) (by omega), Int.zero_add, Int.zero_add]
theorem pw_12 : ∀ k : Fin 13, (1 : Int32) <<< (zI (k.val : Int) &&& 31) = zI ((2 ^ k.val : Nat) : Int) := by decide +kernel
theorem pw_le {k : Nat} (h : k ≤ 12) : 1 ≤ 2 ^ k ∧ 2 ^ k ≤ 4096 := by
  have h1 : 2 ^ k ≤ 2 ^ 12 := Nat.pow_le_pow_right (by omega) h
  have h2 : (2 : Nat) ^ 12 = 4096 := by decide
  have h0 : 0 < 2 ^ k := Nat.two_pow_pos _
  omega
def lsK (c : Nat → Int) (k X : Nat) : Int := if X = 0 then 0 else smK c X.testBit 0 k - 1
theorem m_ch27 {w c : Nat → Int} {nb : Nat → Nat} {k room : Nat} {s : gS} (hk : OkK w c nb k) (hr : room ≤ 200) (h30 : s.1 30 = zI k) (hs : ∀ j, j < k → s.2 30 j = zI (w j) ∧ s.2 31 j = zI (c j - 1)) : ∀ (m x φ X0 : Nat), x + m = 2 ^ k → m < φ → X0 < x → smK c X0.testBit 0 k ≤ ((room + 1 : Nat) : Int) → (∀ y, y < x → smK c y.testBit 0 k ≤ ((room + 1 : Nat) : Int) → smK (kpK w c) y.testBit 0 k ≤ smK (kpK w c) X0.testBit 0 k) → ∃ X1 : Nat, X1 < 2 ^ k ∧ smK c X1.testBit 0 k ≤ ((room + 1 : Nat) : Int) ∧ (∀ y, y < 2 ^ k → smK c y.testBit 0 k ≤ ((room + 1 : Nat) : Int) → smK (kpK w c) y.testBit 0 k ≤ smK (kpK w c) X1.testBit 0 k) ∧ f_X9_chosen_27 φ s (zI room) (zI X0) (zI (smK w X0.testBit 0 k)) (zI (lsK c k X0)) (zI x) = f_X9_chosen_179 gφ s (zI X1) 0 0
  | 0, x, φ, X0, hx, hf, h0, hc, hm => by
    obtain ⟨φ, rfl⟩ : ∃ m, φ = m + 1 := ⟨φ - 1, by omega⟩
    have h12 := hk.1
    have pl := pw_le h12
    have e : x = 2 ^ k := by omega
    refine ⟨X0, by omega, hc, fun y hy => hm y (by omega), ?_⟩
    rw [f_X9_chosen_27, h30, pw_12 ⟨k, by omega⟩, if_pos (by
      show zI ((2 ^ k : Nat) : Int) ≤ zI (x : Int)
      rw [zI_le (by omega) (by omega) (by omega) (by omega)]; omega)]
  | m + 1, x, φ, X0, hx, hf, h0, hc, hm => by
    obtain ⟨φ, rfl⟩ : ∃ m, φ = m + 1 := ⟨φ - 1, by omega⟩
    have h12 := hk.1
    have pl := pw_le h12
    obtain ⟨g, hg⟩ := gf_big
    have a47 := fun (x2 x3 x4 : Int32) => m_ch47 (K := f_X9_chosen_27 φ) (x1 := zI room) (x2 := x2) (x3 := x3) (x4 := x4) hk (show x < 4096 by omega) h30 hs k 0 gφ 0 (-1) (by omega) (by omega)
    rw [f_X9_chosen_27, h30, pw_12 ⟨k, by omega⟩, if_neg (by
      show ¬ zI ((2 ^ k : Nat) : Int) ≤ zI (x : Int)
      rw [zI_le (by omega) (by omega) (by omega) (by omega)]; omega)]
    have a := a47 (zI X0) (zI (smK w X0.testBit 0 k)) (zI (lsK c k X0))
    rw [show zI ((0 : Nat) : Int) = (0 : Int32) from rfl, show zI (0 : Int) = (0 : Int32) from rfl, ← zI_m1] at a
    rw [a]
    have wx := hk.w x.testBit (i := 0) (m := k) (by omega)
    have w0 := hk.w X0.testBit (i := 0) (m := k) (by omega)
    have cx := hk.c x.testBit (i := 0) (m := k) (by omega)
    have c0 := hk.c X0.testBit (i := 0) (m := k) (by omega)
    have rx := rhK_rng x.testBit k 0 (by omega)
    have r0 := rhK_rng X0.testBit k 0 (by omega)
    have e12 : (2 : Nat) ^ (12 - 0) = 4096 := by decide
    rw [e12] at rx r0
    have kx := smK_key w c x.testBit k 0
    have k0 := smK_key w c X0.testBit k 0
    have wp : 0 < smK w x.testBit 0 k := by
      refine smK_pos k 0 (fun j _ h2 => by have := hk.2 j (by omega); omega) ?_
      by_cases g : ∃ j, 0 ≤ j ∧ j < 0 + k ∧ x.testBit j = true
      · exact g
      · exfalso
        have : x = 0 := Nat.eq_of_testBit_eq (fun j => by
          rw [Nat.zero_testBit]
          by_cases hj : j < k
          · cases h9 : x.testBit j with
            | false => rfl
            | true => exact absurd ⟨j, by omega, by omega, h9⟩ g
          · exact tb_out (k := k) (by omega) (by omega))
        omega
    have ex : smK rhK x.testBit 0 12 = smK rhK x.testBit 0 k := by
      have := smK_app rhK x.testBit k 0 (12 - k) (fun j hj => tb_out (k := k) (by omega) (by omega))
      rw [show k + (12 - k) = 12 by omega] at this
      exact this
    have e0 : smK rhK X0.testBit 0 12 = smK rhK X0.testBit 0 k := by
      have := smK_app rhK X0.testBit k 0 (12 - k) (fun j hj => tb_out (k := k) (by omega) (by omega))
      rw [show k + (12 - k) = 12 by omega] at this
      exact this
    have ls0 : (X0 = 0 ∧ lsK c k X0 = 0 ∧ smK w X0.testBit 0 k = 0) ∨ lsK c k X0 = smK c X0.testBit 0 k - 1 := by
      unfold lsK
      by_cases g : X0 = 0
      · left
        refine ⟨g, by rw [if_pos g], ?_⟩
        rw [g, smK_cong (h := fun _ => false) k 0 (fun j _ _ => Nat.zero_testBit j)]
        have key : ∀ (m i : Nat), smK w (fun _ => false) i m = 0 := by
          intro m
          induction m with
          | zero => intro i; rfl
          | succ m ih => intro i; rw [smK_s, ih, if_neg (by decide)]; rfl
        exact key k 0
      · right
        rw [if_neg g]
    have lsr : -1 ≤ lsK c k X0 ∧ lsK c k X0 ≤ 204 := by omega
    have lx : lsK c k x = smK c x.testBit 0 k - 1 := by
      unfold lsK
      rw [if_neg (by omega)]
    -- the two ways on
    have keep : (smK c x.testBit 0 k ≤ ((room + 1 : Nat) : Int) → smK (kpK w c) x.testBit 0 k ≤ smK (kpK w c) X0.testBit 0 k) → ∃ X1 : Nat, X1 < 2 ^ k ∧ smK c X1.testBit 0 k ≤ ((room + 1 : Nat) : Int) ∧ (∀ y, y < 2 ^ k → smK c y.testBit 0 k ≤ ((room + 1 : Nat) : Int) → smK (kpK w c) y.testBit 0 k ≤ smK (kpK w c) X1.testBit 0 k) ∧ f_X9_chosen_27 φ s (zI room) (zI X0) (zI (smK w X0.testBit 0 k)) (zI (lsK c k X0)) (zI ((x + 1 : Nat) : Int)) = f_X9_chosen_179 gφ s (zI X1) 0 0 := fun hle =>
      m_ch27 hk hr h30 hs m (x + 1) φ X0 (by omega) (by omega) (by omega) hc (fun y hy hyc => by
        by_cases e : y = x
        · rw [e] at hyc ⊢; exact hle hyc
        · exact hm y (by omega) hyc)
    have take : smK c x.testBit 0 k ≤ ((room + 1 : Nat) : Int) → smK (kpK w c) X0.testBit 0 k ≤ smK (kpK w c) x.testBit 0 k → ∃ X1 : Nat, X1 < 2 ^ k ∧ smK c X1.testBit 0 k ≤ ((room + 1 : Nat) : Int) ∧ (∀ y, y < 2 ^ k → smK c y.testBit 0 k ≤ ((room + 1 : Nat) : Int) → smK (kpK w c) y.testBit 0 k ≤ smK (kpK w c) X1.testBit 0 k) ∧ f_X9_chosen_27 φ s (zI room) (zI x) (zI (smK w x.testBit 0 k)) (zI (smK c x.testBit 0 k - 1)) (zI ((x + 1 : Nat) : Int)) = f_X9_chosen_179 gφ s (zI X1) 0 0 := fun hle hge => by
      have h9 := m_ch27 hk hr h30 hs m (x + 1) φ x (by omega) (by omega) (by omega) hle (fun y hy hyc => by
        by_cases e : y = x
        · rw [e]; exact Int.le_refl _
        · exact Int.le_trans (hm y (by omega) hyc) hge)
      rw [lx] at h9
      exact h9
    have en : (-1 : Int) + smK c x.testBit 0 k = smK c x.testBit 0 k - 1 := by omega
    rw [Int.zero_add, en]
    have yes : smK (kpK w c) X0.testBit 0 k ≤ smK (kpK w c) x.testBit 0 k → ∃ X1 : Nat, X1 < 2 ^ k ∧ smK c X1.testBit 0 k ≤ ((room + 1 : Nat) : Int) ∧ (∀ y, y < 2 ^ k → smK c y.testBit 0 k ≤ ((room + 1 : Nat) : Int) → smK (kpK w c) y.testBit 0 k ≤ smK (kpK w c) X1.testBit 0 k) ∧ f_X9_chosen_136 (f_X9_chosen_27 φ) s (zI room) (zI X0) (zI (smK w X0.testBit 0 k)) (zI (lsK c k X0)) (zI x) (zI (smK w x.testBit 0 k)) (zI (smK c x.testBit 0 k - 1)) = f_X9_chosen_179 gφ s (zI X1) 0 0 := fun hge => by
      unfold f_X9_chosen_136 f_X9_chosen_141 f_X9_chosen_167
      rw [zsuc]
      by_cases g : (room : Int) < smK c x.testBit 0 k - 1
      · rw [if_pos (by rw [zI_lt (by omega) (by omega) (by omega) (by omega)]; exact g)]
        exact keep (fun h => by omega)
      · rw [if_neg (by rw [zI_lt (by omega) (by omega) (by omega) (by omega)]; exact g), if_neg (by decide)]
        exact take (by omega) hge
    have nay : smK (kpK w c) x.testBit 0 k ≤ smK (kpK w c) X0.testBit 0 k → ∃ X1 : Nat, X1 < 2 ^ k ∧ smK c X1.testBit 0 k ≤ ((room + 1 : Nat) : Int) ∧ (∀ y, y < 2 ^ k → smK c y.testBit 0 k ≤ ((room + 1 : Nat) : Int) → smK (kpK w c) y.testBit 0 k ≤ smK (kpK w c) X1.testBit 0 k) ∧ f_X9_chosen_140 (f_X9_chosen_27 φ) s (zI room) (zI X0) (zI (smK w X0.testBit 0 k)) (zI (lsK c k X0)) (zI x) (zI (smK w x.testBit 0 k)) (zI (smK c x.testBit 0 k - 1)) = f_X9_chosen_179 gφ s (zI X1) 0 0 := fun hle => by
      unfold f_X9_chosen_140 f_X9_chosen_141 f_X9_chosen_167
      rw [zsuc, if_pos rfl, ite_self]
      exact keep (fun _ => hle)
    unfold fnK
    have q1 := zI_lt (a := smK w X0.testBit 0 k) (b := smK w x.testBit 0 k) (by omega) (by omega) (by omega) (by omega)
    have q2 := zI_eq (a := smK w x.testBit 0 k) (b := smK w X0.testBit 0 k) (by omega) (by omega) (by omega) (by omega)
    have q3 := zI_lt (a := smK c x.testBit 0 k - 1) (b := lsK c k X0) (by omega) (by omega) (by omega) (by omega)
    have q4 := zI_eq (a := smK c x.testBit 0 k - 1) (b := lsK c k X0) (by omega) (by omega) (by omega) (by omega)
    rw [m_earl (by omega) (by omega), ob9, ex, e0]
    simp only [q1, q2, q3, q4]
    by_cases A : smK w X0.testBit 0 k < smK w x.testBit 0 k
    · rw [if_pos A]
      exact yes (by omega)
    · rw [if_neg A]
      by_cases B : smK w x.testBit 0 k = smK w X0.testBit 0 k
      · rw [if_pos B]
        have lsn : lsK c k X0 = smK c X0.testBit 0 k - 1 := by
          rcases ls0 with g | g
          · omega
          · exact g
        by_cases C : smK c x.testBit 0 k - 1 < lsK c k X0
        · rw [if_pos C]
          exact yes (by omega)
        · rw [if_neg C]
          by_cases E : smK c x.testBit 0 k - 1 = lsK c k X0
          · rw [if_pos E]
            by_cases F : smK rhK X0.testBit 0 k < smK rhK x.testBit 0 k
            · rw [if_pos F, if_neg (by decide)]
              exact yes (by omega)
            · rw [if_neg F, if_pos rfl]
              exact nay (by omega)
          · rw [if_neg E]
            exact nay (by omega)
      · rw [if_neg B]
        exact nay (by omega)
theorem m_ch179 {nb : Nat → Nat} {k X : Nat} {s : gS} (hX : X < 4096) (hk : k ≤ 12) (h30 : s.1 30 = zI k) (hs : ∀ j, j < k → s.2 29 j = zI ((nb j + 1 : Nat) : Int) ∧ nb j < 16) : ∀ (m i φ : Nat) (acc : Int32), i + m = k → m < φ → ∃ r, f_X9_chosen_179 φ s (zI X) acc (zI i) = some (r, s) ∧ ∀ j, bt r j = (bt acc j || mkK nb X.testBit j i m)
  | 0, i, φ, acc, hi, hf => by
    obtain ⟨φ, rfl⟩ : ∃ m, φ = m + 1 := ⟨φ - 1, by omega⟩
    rw [f_X9_chosen_179, h30, if_pos (by rw [zI_le (by omega) (by omega) (by omega) (by omega)]; omega)]
    exact ⟨acc, rfl, fun j => (Bool.or_false _).symm⟩
  | m + 1, i, φ, acc, hi, hf => by
    obtain ⟨φ, rfl⟩ : ∃ m, φ = m + 1 := ⟨φ - 1, by omega⟩
    obtain ⟨s1, s2⟩ := hs i (by omega)
    rw [f_X9_chosen_179, h30, if_neg (by rw [zI_le (by omega) (by omega) (by omega) (by omega)]; omega), sar_bit (by omega) (by omega)]
    unfold f_X9_chosen_214
    rw [zsuc]
    cases c1 : X.testBit i with
    | true =>
      simp only [↓reduceIte]
      rw [if_pos (zin (by omega) (by omega)), zcl (by omega), s1, zpred]
      obtain ⟨r, r1, r2⟩ := m_ch179 hX hk h30 hs m (i + 1) φ (acc ||| b5 (nb i)) (by omega) (by omega)
      refine ⟨r, r1, fun j => ?_⟩
      rw [r2, bt_or, bt_b5 (by omega), mkK_s, c1, Bool.true_and, Bool.or_assoc]
    | false =>
      simp only [↓reduceIte, Bool.false_eq_true]
      rw [if_neg (by decide)]
      obtain ⟨r, r1, r2⟩ := m_ch179 hX hk h30 hs m (i + 1) φ acc (by omega) (by omega)
      refine ⟨r, r1, fun j => ?_⟩
      rw [r2, mkK_s, c1, Bool.false_and, Bool.false_or]
theorem m_choose {w c : Nat → Int} {nb : Nat → Nat} {k room : Nat} {s : gS} (hk : OkK w c nb k) (hr : room ≤ 200) (h30 : s.1 30 = zI k) (hs : ∀ j, j < k → s.2 30 j = zI (w j) ∧ s.2 31 j = zI (c j - 1)) (hn : ∀ j, j < k → s.2 29 j = zI ((nb j + 1 : Nat) : Int)) : ∃ r, f_X9_chosen_27 gφ s (zI room) 0 0 0 1 = some (r, s) ∧ ∃ x y, DpK w c nb 0 k (room + 1) x y r := by
  have h12 := hk.1
  have pl := pw_le h12
  obtain ⟨g, hg⟩ := gf_big
  have z0 : ∀ (u : Nat → Int), smK u (Nat.testBit 0) 0 k = 0 := by
    intro u
    have key : ∀ (m i : Nat), smK u (Nat.testBit 0) i m = 0 := by
      intro m
      induction m with
      | zero => intro i; rfl
      | succ m ih => intro i; rw [smK_s, ih, Nat.zero_testBit, if_neg (by decide)]; rfl
    exact key k 0
  obtain ⟨X1, x1, x2, x3, x4⟩ := m_ch27 hk hr h30 hs (2 ^ k - 1) 1 gφ 0 (by omega) (by omega) (by omega) (by rw [z0]; omega) (fun y hy _ => by
    have : y = 0 := by omega
    rw [this]
    exact Int.le_refl _)
  obtain ⟨r, r1, r2⟩ := m_ch179 (nb := nb) (X := X1) (s := s) (by omega) h12 h30 (fun j hj => ⟨hn j hj, (hk.2 j hj).2.2⟩) k 0 gφ 0 (by omega) (by omega)
  rw [z0, show lsK c k 0 = 0 from rfl] at x4
  refine ⟨r, ?_, zI (smK w X1.testBit 0 k), zI (smK c X1.testBit 0 k), X1.testBit, x2, fun f hf => ?_, rfl, rfl, fun j => ?_⟩
  · have e1 : f_X9_chosen_27 gφ s (zI room) 0 0 0 1 = f_X9_chosen_179 gφ s (zI X1) 0 0 := x4
    rw [e1]
    exact r1
  · obtain ⟨n1, n2⟩ := nOf_ok f k
    have ec : ∀ u : Nat → Int, smK u f 0 k = smK u (nOf f k).testBit 0 k := fun u => smK_cong k 0 (fun j _ hj => (n2 j (by omega)).symm)
    rw [ec] at hf ⊢
    exact x3 _ n1 hf
  · rw [r2, bt_0, Bool.false_or]
