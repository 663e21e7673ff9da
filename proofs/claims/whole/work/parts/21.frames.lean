set_option maxHeartbeats 4000000 in
theorem fr_X0_lay_76 (r : Int32 × gS) : ∀ (φ : Nat) (s : gS) (x2 : Int32) (x6 : Int32) , f_X0_lay_76 φ s x2 x6 = some r → Kp [0, 1, 2, 3, 4, 5, 6] [] s r.2 := by
  intro φ
  induction φ with
  | zero =>
    intro s x2 x6 h
    exact absurd h (by intro h0; cases h0)
  | succ φ ih =>
    intro s x2 x6 h
    rw [f_X0_lay_76] at h
    rcases Classical.em (x2 ≤ x6) with c1 | c1
    · replace h := g_pos c1 h
      rw [← Option.some.inj h]
      exact Kp.rf
    · replace h := g_neg c1 h
      exact Kp.tr (Kp.ss (by decide) Kp.rf) (ih (ss s 5 ((s.1 5) ||| ((s.1 6) <<< ((x6 * 5) &&& 31)))) x2 (x6 + 1) h)
set_option maxHeartbeats 4000000 in
theorem fr0_X0_lay (r : Int32 × gS) : ∀ (s : gS) (x1 : Int32) (x2 : Int32) (x3 : Int32) (x4 : Int32) (x5 : Int32) , f_X0_lay s x1 x2 x3 x4 x5 = some r → Kp [0, 1, 2, 3, 4, 5, 6] [] s r.2 := by
  intro s x1 x2 x3 x4 x5 h
  rw [f_X0_lay] at h
  obtain ⟨r1, e2, h⟩ := g_bind h
  rcases Classical.em (r1 = 0) with c3 | c3
  · replace h := g_pos c3 h
    rw [← Option.some.inj h]
    exact Kp.rf
  · replace h := g_neg c3 h
    obtain ⟨r4, e5, h⟩ := g_bind h
    rcases Classical.em (r4 = 0) with c6 | c6
    · replace h := g_pos c6 h
      rw [← Option.some.inj h]
      exact Kp.rf
    · replace h := g_neg c6 h
      obtain ⟨r7, e8, h⟩ := g_bind h
      rcases Classical.em (r7 = 0) with c9 | c9
      · replace h := g_pos c9 h
        rw [← Option.some.inj h]
        exact Kp.rf
      · replace h := g_neg c9 h
        rcases Classical.em (x3 ≤ (if x1 < x2 then x2 else x1)) with c10 | c10
        · replace h := g_pos c10 h
          obtain ⟨g11, h⟩ := g_guard h
          obtain ⟨g12, h⟩ := g_guard h
          exact Kp.tr (Kp.ss (by decide) (Kp.ss (by decide) (Kp.ss (by decide) (Kp.ss (by decide) (Kp.ss (by decide) (Kp.ss (by decide) (Kp.ss (by decide) Kp.rf))))))) (fr_X0_lay_76 r gφ (ss (ss (ss (ss (ss (ss (ss s 0 x1) 1 x2) 2 x3) 3 x4) 4 x5) 6 ((1 <<< (x1 &&& 31)) - 1)) 5 0) x2 0 h)
        · replace h := g_neg c10 h
          rw [← Option.some.inj h]
          exact Kp.rf
theorem fr_X0_lay (s : gS) (x1 : Int32) (x2 : Int32) (x3 : Int32) (x4 : Int32) (x5 : Int32) (r : Int32 × gS) (h : f_X0_lay s x1 x2 x3 x4 x5 = some r) : Kp [0, 1, 2, 3, 4, 5, 6] [] s r.2 := fr0_X0_lay r s x1 x2 x3 x4 x5 h
set_option maxHeartbeats 4000000 in
theorem fr0_X3_clear (r : gS) : ∀ (s : gS) , f_X3_clear s = some r → Kp [7, 8] [] s r := by
  intro s h
  rw [f_X3_clear] at h
  rw [← Option.some.inj h]
  exact (Kp.ss (by decide) (Kp.ss (by decide) Kp.rf))
theorem fr_X3_clear (s : gS) (r : gS) (h : f_X3_clear s = some r) : Kp [7, 8] [] s r := fr0_X3_clear r s h
set_option maxHeartbeats 4000000 in
theorem fr_X3_addMove_146 (r : Int32 × gS) : ∀ (s : gS) (t1 : Int32) , f_X3_addMove_146 s t1 = some r → Kp [7, 8] [0] s r.2 := by
  intro s t1 h
  rw [f_X3_addMove_146] at h
  rw [← Option.some.inj h]
  exact (Kp.ss (by decide) Kp.rf)
set_option maxHeartbeats 4000000 in
theorem fr_X3_addMove_99 (r : Int32 × gS) : ∀ (s : gS) (x1 : Int32) (x2 : Int32) (x4 : Int32) (t0 : Int32) , f_X3_addMove_99 s x1 x2 x4 t0 = some r → Kp [7, 8] [0] s r.2 := by
  intro s x1 x2 x4 t0 h
  rw [f_X3_addMove_99] at h
  obtain ⟨g1, h⟩ := g_guard h
  rcases Classical.em (t0 = 0) with c2 | c2
  · replace h := g_pos c2 h
    obtain ⟨r3, e4, h⟩ := g_bind h
    rcases (Classical.em (r3 = 0)).symm with c5 | c5
    · replace h := g_neg c5 h
      rw [← Option.some.inj h]
      exact (Kp.ss (by decide) (Kp.sa (by decide) Kp.rf))
    · replace h := g_pos c5 h
      rw [← Option.some.inj h]
      exact (Kp.ss (by decide) (Kp.ss (by decide) (Kp.sa (by decide) Kp.rf)))
  · replace h := g_neg c2 h
    rcases Classical.em ((s.1 4) = 0) with c6 | c6
    · replace h := g_pos c6 h
      exact Kp.tr (Kp.ss (by decide) (Kp.sa (by decide) Kp.rf)) (fr_X3_addMove_146 r (ss (sa s 0 ((s.1 7).toNatClampNeg) x1) 7 ((s.1 7) + 1)) x4 h)
    · replace h := g_neg c6 h
      exact Kp.tr (Kp.ss (by decide) (Kp.sa (by decide) Kp.rf)) (fr_X3_addMove_146 r (ss (sa s 0 ((s.1 7).toNatClampNeg) x1) 7 ((s.1 7) + 1)) (1 - x4) h)
set_option maxHeartbeats 4000000 in
theorem fr_X3_addMove_38 (r : Int32 × gS) : ∀ (s : gS) (x1 : Int32) (x2 : Int32) (t0 : Int32) , f_X3_addMove_38 s x1 x2 t0 = some r → Kp [7, 8] [0] s r.2 := by
  intro s x1 x2 t0 h
  rw [f_X3_addMove_38] at h
  rcases Classical.em (t0 = 0) with c1 | c1
  · replace h := g_pos c1 h
    rw [← Option.some.inj h]
    exact Kp.rf
  · replace h := g_neg c1 h
    rcases (Classical.em ((s.1 8) = 0)).symm with c2 | c2
    · replace h := g_neg c2 h
      rw [← Option.some.inj h]
      exact Kp.rf
    · replace h := g_pos c2 h
      rcases Classical.em ((s.1 7) < 16) with c3 | c3
      · replace h := g_pos c3 h
        obtain ⟨r4, e5, h⟩ := g_bind h
        obtain ⟨r6, e7, h⟩ := g_bind h
        rcases Classical.em ((r6 &&& x1) = 0) with c8 | c8
        · replace h := g_pos c8 h
          exact Kp.tr Kp.rf (fr_X3_addMove_99 r s x1 x2 ((s.1 7) &&& 1) 0 h)
        · replace h := g_neg c8 h
          exact Kp.tr Kp.rf (fr_X3_addMove_99 r s x1 x2 ((s.1 7) &&& 1) 1 h)
      · replace h := g_neg c3 h
        rw [← Option.some.inj h]
        exact Kp.rf
set_option maxHeartbeats 4000000 in
theorem fr0_X3_addMove (r : Int32 × gS) : ∀ (s : gS) (x1 : Int32) , f_X3_addMove s x1 = some r → Kp [7, 8] [0] s r.2 := by
  intro s x1 h
  rw [f_X3_addMove] at h
  obtain ⟨r1, e2, h⟩ := g_bind h
  obtain ⟨r3, e4, h⟩ := g_bind h
  obtain ⟨r5, e6, h⟩ := g_bind h
  rcases Classical.em ((r5 &&& x1) = 0) with c7 | c7
  · replace h := g_pos c7 h
    exact Kp.tr Kp.rf (fr_X3_addMove_38 r s x1 (r1 ||| r3) 0 h)
  · replace h := g_neg c7 h
    exact Kp.tr Kp.rf (fr_X3_addMove_38 r s x1 (r1 ||| r3) 1 h)
theorem fr_X3_addMove (s : gS) (x1 : Int32) (r : Int32 × gS) (h : f_X3_addMove s x1 = some r) : Kp [7, 8] [0] s r.2 := fr0_X3_addMove r s x1 h
set_option maxHeartbeats 4000000 in
theorem fr0_X3_takeBack (r : Int32 × gS) : ∀ (s : gS) , f_X3_takeBack s = some r → Kp [7, 8] [] s r.2 := by
  intro s h
  rw [f_X3_takeBack] at h
  rcases (Classical.em ((s.1 7) = 0)).symm with c1 | c1
  · replace h := g_neg c1 h
    rw [← Option.some.inj h]
    exact (Kp.ss (by decide) (Kp.ss (by decide) Kp.rf))
  · replace h := g_pos c1 h
    rw [← Option.some.inj h]
    exact Kp.rf
theorem fr_X3_takeBack (s : gS) (r : Int32 × gS) (h : f_X3_takeBack s = some r) : Kp [7, 8] [] s r.2 := fr0_X3_takeBack r s h
set_option maxHeartbeats 4000000 in
theorem fr0_X2_tellDepth (r : Int32 × gS) : ∀ (s : gS) (x1 : Int32) , f_X2_tellDepth s x1 = some r → Kp [9, 10] [] s r.2 := by
  intro s x1 h
  rw [f_X2_tellDepth] at h
  rcases Classical.em (x1 < 1) with c1 | c1
  · replace h := g_pos c1 h
    rw [← Option.some.inj h]
    exact Kp.rf
  · replace h := g_neg c1 h
    rcases Classical.em (x1 ≤ 4) with c2 | c2
    · replace h := g_pos c2 h
      rw [← Option.some.inj h]
      exact (Kp.ss (by decide) (Kp.ss (by decide) Kp.rf))
    · replace h := g_neg c2 h
      rw [← Option.some.inj h]
      exact Kp.rf
theorem fr_X2_tellDepth (s : gS) (x1 : Int32) (r : Int32 × gS) (h : f_X2_tellDepth s x1 = some r) : Kp [9, 10] [] s r.2 := fr0_X2_tellDepth r s x1 h
set_option maxHeartbeats 4000000 in
theorem fr0_X2_tellWeight (r : Int32 × gS) : ∀ (s : gS) (x1 : Int32) (x2 : Int32) , f_X2_tellWeight s x1 x2 = some r → Kp [] [1] s r.2 := by
  intro s x1 x2 h
  rw [f_X2_tellWeight] at h
  rcases Classical.em (x1 < 0) with c1 | c1
  · replace h := g_pos c1 h
    rw [← Option.some.inj h]
    exact Kp.rf
  · replace h := g_neg c1 h
    rcases Classical.em (6 ≤ x1) with c2 | c2
    · replace h := g_pos c2 h
      rw [← Option.some.inj h]
      exact Kp.rf
    · replace h := g_neg c2 h
      rcases Classical.em (x2 < 0) with c3 | c3
      · replace h := g_pos c3 h
        rw [← Option.some.inj h]
        exact Kp.rf
      · replace h := g_neg c3 h
        rcases Classical.em (x2 ≤ 99) with c4 | c4
        · replace h := g_pos c4 h
          obtain ⟨g5, h⟩ := g_guard h
          rw [← Option.some.inj h]
          exact (Kp.sa (by decide) Kp.rf)
        · replace h := g_neg c4 h
          rw [← Option.some.inj h]
          exact Kp.rf
theorem fr_X2_tellWeight (s : gS) (x1 : Int32) (x2 : Int32) (r : Int32 × gS) (h : f_X2_tellWeight s x1 x2 = some r) : Kp [] [1] s r.2 := fr0_X2_tellWeight r s x1 x2 h
set_option maxHeartbeats 4000000 in
theorem fr0_X2_forgetAll (r : gS) : ∀ (s : gS) , f_X2_forgetAll s = some r → Kp [10] [2] s r := by
  intro s h
  rw [f_X2_forgetAll] at h
  rw [← Option.some.inj h]
  exact (Kp.ss (by decide) (Kp.sf (by decide) Kp.rf))
theorem fr_X2_forgetAll (s : gS) (r : gS) (h : f_X2_forgetAll s = some r) : Kp [10] [2] s r := fr0_X2_forgetAll r s h
set_option maxHeartbeats 4000000 in
theorem fr_X2_forgetMove_35 (K2 : gS → Int32 → Int32 → Option gS) (r : gS) (hK2 : ∀ (s : gS) (x1 : Int32) (x2 : Int32) , K2 s x1 x2 = some r → Kp [10] [2] s r) : ∀ (s : gS) (x1 : Int32) (x2 : Int32) , f_X2_forgetMove_35 K2 s x1 x2 = some r → Kp [10] [2] s r := by
  intro s x1 x2 h
  rw [f_X2_forgetMove_35] at h
  exact Kp.tr Kp.rf (hK2 s x1 (x2 + 1) h)
set_option maxHeartbeats 4000000 in
theorem fr_X2_forgetMove_2 (r : gS) : ∀ (φ : Nat) (s : gS) (x1 : Int32) (x2 : Int32) , f_X2_forgetMove_2 φ s x1 x2 = some r → Kp [10] [2] s r := by
  intro φ
  induction φ with
  | zero =>
    intro s x1 x2 h
    exact absurd h (by intro h0; cases h0)
  | succ φ ih =>
    intro s x1 x2 h
    rw [f_X2_forgetMove_2] at h
    rcases Classical.em (6 ≤ x2) with c1 | c1
    · replace h := g_pos c1 h
      rw [← Option.some.inj h]
      exact (Kp.ss (by decide) Kp.rf)
    · replace h := g_neg c1 h
      rcases Classical.em (((x1 * 6) + x2) < 0) with c2 | c2
      · replace h := g_pos c2 h
        exact Kp.tr Kp.rf (fr_X2_forgetMove_35 (f_X2_forgetMove_2 φ) r (fun s x1 x2 h => ih s x1 x2 h) s x1 x2 h)
      · replace h := g_neg c2 h
        rcases Classical.em (102 ≤ ((x1 * 6) + x2)) with c3 | c3
        · replace h := g_pos c3 h
          exact Kp.tr Kp.rf (fr_X2_forgetMove_35 (f_X2_forgetMove_2 φ) r (fun s x1 x2 h => ih s x1 x2 h) s x1 x2 h)
        · replace h := g_neg c3 h
          obtain ⟨g4, h⟩ := g_guard h
          exact Kp.tr (Kp.sa (by decide) Kp.rf) (fr_X2_forgetMove_35 (f_X2_forgetMove_2 φ) r (fun s x1 x2 h => ih s x1 x2 h) (sa s 2 (((x1 * 6) + x2).toNatClampNeg) 2) x1 x2 h)
set_option maxHeartbeats 4000000 in
theorem fr0_X2_forgetMove (r : gS) : ∀ (s : gS) (x1 : Int32) , f_X2_forgetMove s x1 = some r → Kp [10] [2] s r := by
  intro s x1 h
  rw [f_X2_forgetMove] at h
  exact Kp.tr Kp.rf (fr_X2_forgetMove_2 r gφ s x1 0 h)
theorem fr_X2_forgetMove (s : gS) (x1 : Int32) (r : gS) (h : f_X2_forgetMove s x1 = some r) : Kp [10] [2] s r := fr0_X2_forgetMove r s x1 h
set_option maxHeartbeats 4000000 in
theorem fr_X2_valueBehind_111 (r : Int32 × gS) : ∀ (s : gS) (x3 : Int32) , f_X2_valueBehind_111 s x3 = some r → Kp [] [2] s r.2 := by
  intro s x3 h
  rw [f_X2_valueBehind_111] at h
  obtain ⟨g1, h⟩ := g_guard h
  rw [← Option.some.inj h]
  exact Kp.rf
set_option maxHeartbeats 4000000 in
theorem fr0_X2_valueBehind (r : Int32 × gS) : ∀ (s : gS) (x1 : Int32) (x2 : Int32) , f_X2_valueBehind s x1 x2 = some r → Kp [] [2] s r.2 := by
  intro s x1 x2 h
  rw [f_X2_valueBehind] at h
  obtain ⟨r1, e2, h⟩ := g_bind h
  rcases Classical.em (r1 = 0) with c3 | c3
  · replace h := g_pos c3 h
    rcases Classical.em (x2 < 1) with c4 | c4
    · replace h := g_pos c4 h
      rw [← Option.some.inj h]
      exact Kp.rf
    · replace h := g_neg c4 h
      rcases Classical.em (6 ≤ x2) with c5 | c5
      · replace h := g_pos c5 h
        rw [← Option.some.inj h]
        exact Kp.rf
      · replace h := g_neg c5 h
        rcases Classical.em (((x1 * 6) + x2) < 0) with c6 | c6
        · replace h := g_pos c6 h
          rw [← Option.some.inj h]
          exact Kp.rf
        · replace h := g_neg c6 h
          rcases Classical.em (((x1 * 6) + x2) < 102) with c7 | c7
          · replace h := g_pos c7 h
            obtain ⟨g8, h⟩ := g_guard h
            rcases (Classical.em ((s.2 2 ((x1 * 6) + x2).toNatClampNeg) = 2)).symm with c9 | c9
            · replace h := g_neg c9 h
              exact Kp.tr Kp.rf (fr_X2_valueBehind_111 r s ((x1 * 6) + x2) h)
            · replace h := g_pos c9 h
              obtain ⟨r10, e11, h⟩ := g_bind h
              obtain ⟨r12, e13, h⟩ := g_bind h
              obtain ⟨r14, e15, h⟩ := g_bind h
              obtain ⟨g16, h⟩ := g_guard h
              exact Kp.tr (Kp.sa (by decide) Kp.rf) (fr_X2_valueBehind_111 r (sa s 2 (((x1 * 6) + x2).toNatClampNeg) r14) ((x1 * 6) + x2) h)
          · replace h := g_neg c7 h
            rw [← Option.some.inj h]
            exact Kp.rf
  · replace h := g_neg c3 h
    obtain ⟨r17, e18, h⟩ := g_bind h
    rw [← Option.some.inj h]
    exact Kp.rf
theorem fr_X2_valueBehind (s : gS) (x1 : Int32) (x2 : Int32) (r : Int32 × gS) (h : f_X2_valueBehind s x1 x2 = some r) : Kp [] [2] s r.2 := fr0_X2_valueBehind r s x1 x2 h
set_option maxHeartbeats 4000000 in
theorem fr0_X2_leaderBehind (r : Int32 × gS) : ∀ (s : gS) (x1 : Int32) , f_X2_leaderBehind s x1 = some r → Kp [] [2] s r.2 := by
  intro s x1 h
  rw [f_X2_leaderBehind] at h
  obtain ⟨r1, e2, h⟩ := g_bind h
  rcases (Classical.em (r1.1 = 0)).symm with c3 | c3
  · replace h := g_neg c3 h
    rcases Classical.em (r1.1 ≤ 0) with c4 | c4
    · replace h := g_pos c4 h
      rw [← Option.some.inj h]
      exact (Kp.tr Kp.rf (Kp.mo (fr_X2_valueBehind s x1 (s.1 9) r1 e2) (by decide) (by decide)))
    · replace h := g_neg c4 h
      rw [← Option.some.inj h]
      exact (Kp.tr Kp.rf (Kp.mo (fr_X2_valueBehind s x1 (s.1 9) r1 e2) (by decide) (by decide)))
  · replace h := g_pos c3 h
    rw [← Option.some.inj h]
    exact (Kp.tr Kp.rf (Kp.mo (fr_X2_valueBehind s x1 (s.1 9) r1 e2) (by decide) (by decide)))
theorem fr_X2_leaderBehind (s : gS) (x1 : Int32) (r : Int32 × gS) (h : f_X2_leaderBehind s x1 = some r) : Kp [] [2] s r.2 := fr0_X2_leaderBehind r s x1 h
set_option maxHeartbeats 4000000 in
theorem fr0_X2_keep (r : gS) : ∀ (s : gS) (x1 : Int32) (x2 : Int32) (x3 : Int32) , f_X2_keep s x1 x2 x3 = some r → Kp [] [3] s r := by
  intro s x1 x2 x3 h
  rw [f_X2_keep] at h
  rcases Classical.em (((x1 * 6) + x2) < 0) with c1 | c1
  · replace h := g_pos c1 h
    rw [← Option.some.inj h]
    exact Kp.rf
  · replace h := g_neg c1 h
    rcases Classical.em (102 ≤ ((x1 * 6) + x2)) with c2 | c2
    · replace h := g_pos c2 h
      rw [← Option.some.inj h]
      exact Kp.rf
    · replace h := g_neg c2 h
      obtain ⟨g3, h⟩ := g_guard h
      rw [← Option.some.inj h]
      exact (Kp.sa (by decide) Kp.rf)
theorem fr_X2_keep (s : gS) (x1 : Int32) (x2 : Int32) (x3 : Int32) (r : gS) (h : f_X2_keep s x1 x2 x3 = some r) : Kp [] [3] s r := fr0_X2_keep r s x1 x2 x3 h
set_option maxHeartbeats 4000000 in
theorem fr0_X2_forcedOf (r : Int32 × gS) : ∀ (s : gS) (x1 : Int32) , f_X2_forcedOf s x1 = some r → Kp [] [2] s r.2 := by
  intro s x1 h
  rw [f_X2_forcedOf] at h
  obtain ⟨r1, e2, h⟩ := g_bind h
  obtain ⟨r3, e4, h⟩ := g_bind h
  obtain ⟨r5, e6, h⟩ := g_bind h
  obtain ⟨r7, e8, h⟩ := g_bind h
  obtain ⟨r9, e10, h⟩ := g_bind h
  obtain ⟨r11, e12, h⟩ := g_bind h
  rcases Classical.em ((r9 &&& (r11 ^^^ (-1 : Int32))) = 0) with c13 | c13
  · replace h := g_pos c13 h
    rw [← Option.some.inj h]
    exact Kp.rf
  · replace h := g_neg c13 h
    obtain ⟨r14, e15, h⟩ := g_bind h
    rcases (Classical.em (r14.1 = 1)).symm with c16 | c16
    · replace h := g_neg c16 h
      obtain ⟨r17, e18, h⟩ := g_bind h
      rcases (Classical.em (r17 = 0)).symm with c19 | c19
      · replace h := g_neg c19 h
        rw [← Option.some.inj h]
        exact (Kp.tr Kp.rf (Kp.mo (fr_X2_valueBehind s x1 ((s.1 9) - 1) r14 e15) (by decide) (by decide)))
      · replace h := g_pos c19 h
        rw [← Option.some.inj h]
        exact (Kp.tr Kp.rf (Kp.mo (fr_X2_valueBehind s x1 ((s.1 9) - 1) r14 e15) (by decide) (by decide)))
    · replace h := g_pos c16 h
      rw [← Option.some.inj h]
      exact (Kp.tr Kp.rf (Kp.mo (fr_X2_valueBehind s x1 ((s.1 9) - 1) r14 e15) (by decide) (by decide)))
theorem fr_X2_forcedOf (s : gS) (x1 : Int32) (r : Int32 × gS) (h : f_X2_forcedOf s x1 = some r) : Kp [] [2] s r.2 := fr0_X2_forcedOf r s x1 h
set_option maxHeartbeats 4000000 in
theorem fr_X2_turningMove_22 (r : Int32 × gS) : ∀ (φ : Nat) (s : gS) (x1 : Int32) (x2 : Int32) (x3 : Int32) , f_X2_turningMove_22 φ s x1 x2 x3 = some r → Kp [] [2] s r.2 := by
  intro φ
  induction φ with
  | zero =>
    intro s x1 x2 x3 h
    exact absurd h (by intro h0; cases h0)
  | succ φ ih =>
    intro s x1 x2 x3 h
    rw [f_X2_turningMove_22] at h
    rcases Classical.em (x3 < 1) with c1 | c1
    · replace h := g_pos c1 h
      rw [← Option.some.inj h]
      exact Kp.rf
    · replace h := g_neg c1 h
      rcases Classical.em (x2 = 2) with c2 | c2
      · replace h := g_pos c2 h
        rw [← Option.some.inj h]
        exact Kp.rf
      · replace h := g_neg c2 h
        obtain ⟨r3, e4, h⟩ := g_bind h
        rcases Classical.em (r3.1 = x2) with c5 | c5
        · replace h := g_pos c5 h
          exact Kp.tr (Kp.tr Kp.rf (Kp.mo (fr_X2_leaderBehind s x3 r3 e4) (by decide) (by decide))) (ih r3.2 x3 x2 (x3 + (-1 : Int32)) h)
        · replace h := g_neg c5 h
          rw [← Option.some.inj h]
          exact (Kp.tr Kp.rf (Kp.mo (fr_X2_leaderBehind s x3 r3 e4) (by decide) (by decide)))
set_option maxHeartbeats 4000000 in
theorem fr0_X2_turningMove (r : Int32 × gS) : ∀ (s : gS) , f_X2_turningMove s = some r → Kp [] [2] s r.2 := by
  intro s h
  rw [f_X2_turningMove] at h
  obtain ⟨r1, e2, h⟩ := g_bind h
  exact Kp.tr (Kp.tr Kp.rf (Kp.mo (fr_X2_leaderBehind s (s.1 7) r1 e2) (by decide) (by decide))) (fr_X2_turningMove_22 r gφ r1.2 0 r1.1 (r1.2.1 7) h)
theorem fr_X2_turningMove (s : gS) (r : Int32 × gS) (h : f_X2_turningMove s = some r) : Kp [] [2] s r.2 := fr0_X2_turningMove r s h
set_option maxHeartbeats 4000000 in
theorem fr_X2_examine_142 (K118 : gS → Int32 → Int32 → Option gS) (r : gS) (hK118 : ∀ (s : gS) (x1 : Int32) (x2 : Int32) , K118 s x1 x2 = some r → Kp [10] [2, 3] s r) : ∀ (s : gS) (x1 : Int32) (x2 : Int32) (t1 : Int32) (t2 : Int32) (t3 : Int32) , f_X2_examine_142 K118 s x1 x2 t1 t2 t3 = some r → Kp [10] [2, 3] s r := by
  intro s x1 x2 t1 t2 t3 h
  rw [f_X2_examine_142] at h
  obtain ⟨r1, e2, h⟩ := g_bind h
  exact Kp.tr (Kp.tr Kp.rf (Kp.mo (fr_X2_keep s t1 t2 t3 r1 e2) (by decide) (by decide))) (hK118 r1 x1 (x2 + 1) h)
set_option maxHeartbeats 4000000 in
theorem fr_X2_examine_118 (r : gS) : ∀ (φ : Nat) (s : gS) (x1 : Int32) (x2 : Int32) , f_X2_examine_118 φ s x1 x2 = some r → Kp [10] [2, 3] s r := by
  intro φ
  induction φ with
  | zero =>
    intro s x1 x2 h
    exact absurd h (by intro h0; cases h0)
  | succ φ ih =>
    intro s x1 x2 h
    rw [f_X2_examine_118] at h
    rcases Classical.em ((s.1 7) < x2) with c1 | c1
    · replace h := g_pos c1 h
      rw [← Option.some.inj h]
      exact Kp.rf
    · replace h := g_neg c1 h
      rcases (Classical.em (x2 = x1)).symm with c2 | c2
      · replace h := g_neg c2 h
        exact Kp.tr Kp.rf (fr_X2_examine_142 (f_X2_examine_118 φ) r (fun s x1 x2 h => ih s x1 x2 h) s x1 x2 x2 5 0 h)
      · replace h := g_pos c2 h
        exact Kp.tr Kp.rf (fr_X2_examine_142 (f_X2_examine_118 φ) r (fun s x1 x2 h => ih s x1 x2 h) s x1 x2 x2 5 1 h)
set_option maxHeartbeats 4000000 in
theorem fr_X2_examine_7 (r : gS) : ∀ (φ : Nat) (s : gS) (x1 : Int32) , f_X2_examine_7 φ s x1 = some r → Kp [10] [2, 3] s r := by
  intro φ
  induction φ with
  | zero =>
    intro s x1 h
    exact absurd h (by intro h0; cases h0)
  | succ φ ih =>
    intro s x1 h
    rw [f_X2_examine_7] at h
    rcases Classical.em ((s.1 7) < x1) with c1 | c1
    · replace h := g_pos c1 h
      obtain ⟨r2, e3, h⟩ := g_bind h
      exact Kp.tr (Kp.tr (Kp.ss (by decide) Kp.rf) (Kp.mo (fr_X2_turningMove (ss s 10 (s.1 7)) r2 e3) (by decide) (by decide))) (fr_X2_examine_118 r gφ r2.2 r2.1 1 h)
    · replace h := g_neg c1 h
      obtain ⟨r4, e5, h⟩ := g_bind h
      obtain ⟨r6, e7, h⟩ := g_bind h
      obtain ⟨r8, e9, h⟩ := g_bind h
      obtain ⟨r10, e11, h⟩ := g_bind h
      obtain ⟨r12, e13, h⟩ := g_bind h
      obtain ⟨r14, e15, h⟩ := g_bind h
      obtain ⟨r16, e17, h⟩ := g_bind h
      obtain ⟨r18, e19, h⟩ := g_bind h
      obtain ⟨r20, e21, h⟩ := g_bind h
      obtain ⟨r22, e23, h⟩ := g_bind h
      obtain ⟨r24, e25, h⟩ := g_bind h
      obtain ⟨r26, e27, h⟩ := g_bind h
      exact Kp.tr (Kp.tr (Kp.tr (Kp.tr (Kp.tr (Kp.tr (Kp.tr (Kp.tr (Kp.tr Kp.rf (Kp.mo (fr_X2_keep s x1 0 r4 r6 e7) (by decide) (by decide))) (Kp.mo (fr_X2_keep r6 x1 1 r8 r10 e11) (by decide) (by decide))) (Kp.mo (fr_X2_forcedOf r10 x1 r12 e13) (by decide) (by decide))) (Kp.mo (fr_X2_keep r12.2 x1 2 r12.1 r14 e15) (by decide) (by decide))) (Kp.mo (fr_X2_valueBehind r14 (x1 - 1) (r14.1 9) r16 e17) (by decide) (by decide))) (Kp.mo (fr_X2_valueBehind r16.2 x1 ((r16.2.1 9) - 1) r18 e19) (by decide) (by decide))) (Kp.mo (fr_X2_keep r18.2 x1 3 (r16.1 + r18.1) r20 e21) (by decide) (by decide))) (Kp.mo (fr_X2_keep r20 x1 4 r24 r26 e27) (by decide) (by decide))) (ih r26 (x1 + 1) h)
set_option maxHeartbeats 4000000 in
theorem fr0_X2_examine (r : gS) : ∀ (s : gS) , f_X2_examine s = some r → Kp [10] [2, 3] s r := by
  intro s h
  rw [f_X2_examine] at h
  exact Kp.tr Kp.rf (fr_X2_examine_7 r gφ s ((s.1 10) + 1) h)
theorem fr_X2_examine (s : gS) (r : gS) (h : f_X2_examine s = some r) : Kp [10] [2, 3] s r := fr0_X2_examine r s h
set_option maxHeartbeats 4000000 in
theorem fr_X6_addFour_45 (K3 : gS → Int32 → Int32 → Option gS) (r : gS) (hK3 : ∀ (s : gS) (x1 : Int32) (x2 : Int32) , K3 s x1 x2 = some r → Kp [12] [11] s r) : ∀ (s : gS) (x1 : Int32) (x2 : Int32) , f_X6_addFour_45 K3 s x1 x2 = some r → Kp [12] [11] s r := by
  intro s x1 x2 h
  rw [f_X6_addFour_45] at h
  exact Kp.tr Kp.rf (hK3 s x1 (x2 + (-8 : Int32)) h)
set_option maxHeartbeats 4000000 in
theorem fr_X6_addFour_3 (r : gS) : ∀ (φ : Nat) (s : gS) (x1 : Int32) (x2 : Int32) , f_X6_addFour_3 φ s x1 x2 = some r → Kp [12] [11] s r := by
  intro φ
  induction φ with
  | zero =>
    intro s x1 x2 h
    exact absurd h (by intro h0; cases h0)
  | succ φ ih =>
    intro s x1 x2 h
    rw [f_X6_addFour_3] at h
    rcases Classical.em (x2 < 0) with c1 | c1
    · replace h := g_pos c1 h
      rw [← Option.some.inj h]
      exact Kp.rf
    · replace h := g_neg c1 h
      rcases Classical.em (120 ≤ (s.1 12)) with c2 | c2
      · replace h := g_pos c2 h
        exact Kp.tr Kp.rf (fr_X6_addFour_45 (f_X6_addFour_3 φ) r (fun s x1 x2 h => ih s x1 x2 h) s x1 x2 h)
      · replace h := g_neg c2 h
        obtain ⟨g3, h⟩ := g_guard h
        exact Kp.tr (Kp.ss (by decide) (Kp.sa (by decide) Kp.rf)) (fr_X6_addFour_45 (f_X6_addFour_3 φ) r (fun s x1 x2 h => ih s x1 x2 h) (ss (sa s 11 ((s.1 12).toNatClampNeg) ((((x1 : Int32).toUInt32 >>> ((x2 : Int32).toUInt32 &&& Int32.toUInt32 31)).toInt32) &&& 255)) 12 ((s.1 12) + 1)) x1 x2 h)
set_option maxHeartbeats 4000000 in
theorem fr0_X6_addFour (r : gS) : ∀ (s : gS) (x1 : Int32) , f_X6_addFour s x1 = some r → Kp [12] [11] s r := by
  intro s x1 h
  rw [f_X6_addFour] at h
  exact Kp.tr Kp.rf (fr_X6_addFour_3 r gφ s x1 24 h)
theorem fr_X6_addFour (s : gS) (x1 : Int32) (r : gS) (h : f_X6_addFour s x1 = some r) : Kp [12] [11] s r := fr0_X6_addFour r s x1 h
set_option maxHeartbeats 4000000 in
theorem fr0_X6_finish (r : gS) : ∀ (s : gS) (x1 : Int32) , f_X6_finish s x1 = some r → Kp [12, 13] [] s r := by
  intro s x1 h
  rw [f_X6_finish] at h
  rw [← Option.some.inj h]
  exact (Kp.ss (by decide) (Kp.ss (by decide) Kp.rf))
theorem fr_X6_finish (s : gS) (x1 : Int32) (r : gS) (h : f_X6_finish s x1 = some r) : Kp [12, 13] [] s r := fr0_X6_finish r s x1 h
set_option maxHeartbeats 4000000 in
theorem fr0_X6_readWords (r : Int32 × gS) : ∀ (s : gS) (x1 : Int32) (x2 : Int32) (x3 : Int32) , f_X6_readWords s x1 x2 x3 = some r → Kp [14, 15, 16] [] s r.2 := by
  intro s x1 x2 x3 h
  rw [f_X6_readWords] at h
  obtain ⟨r1, e2, h⟩ := g_bind h
  obtain ⟨r3, e4, h⟩ := g_bind h
  rcases (Classical.em (r3 = 0)).symm with c5 | c5
  · replace h := g_neg c5 h
    obtain ⟨r6, e7, h⟩ := g_bind h
    obtain ⟨r8, e9, h⟩ := g_bind h
    obtain ⟨r10, e11, h⟩ := g_bind h
    rcases Classical.em (r10 = x2) with c12 | c12
    · replace h := g_pos c12 h
      rw [← Option.some.inj h]
      exact (Kp.ss (by decide) (Kp.ss (by decide) (Kp.ss (by decide) Kp.rf)))
    · replace h := g_neg c12 h
      obtain ⟨r13, e14, h⟩ := g_bind h
      rcases (Classical.em (r13 = 32)).symm with c15 | c15
      · replace h := g_neg c15 h
        rw [← Option.some.inj h]
        exact (Kp.ss (by decide) (Kp.ss (by decide) (Kp.ss (by decide) Kp.rf)))
      · replace h := g_pos c15 h
        rw [← Option.some.inj h]
        exact (Kp.ss (by decide) (Kp.ss (by decide) (Kp.ss (by decide) Kp.rf)))
  · replace h := g_pos c5 h
    rw [← Option.some.inj h]
    exact Kp.rf
theorem fr_X6_readWords (s : gS) (x1 : Int32) (x2 : Int32) (x3 : Int32) (r : Int32 × gS) (h : f_X6_readWords s x1 x2 x3 = some r) : Kp [14, 15, 16] [] s r.2 := fr0_X6_readWords r s x1 x2 x3 h
set_option maxHeartbeats 4000000 in
theorem fr0_X1_clear (r : gS) : ∀ (s : gS) , f_X1_clear s = some r → Kp [11] [] s r := by
  intro s h
  rw [f_X1_clear] at h
  rw [← Option.some.inj h]
  exact (Kp.ss (by decide) Kp.rf)
theorem fr_X1_clear (s : gS) (r : gS) (h : f_X1_clear s = some r) : Kp [11] [] s r := fr0_X1_clear r s h
set_option maxHeartbeats 4000000 in
theorem fr0_X1_offer (r : gS) : ∀ (s : gS) (x1 : Int32) (x2 : Int32) (x3 : Int32) , f_X1_offer s x1 x2 x3 = some r → Kp [11] [5, 6, 7] s r := by
  intro s x1 x2 x3 h
  rw [f_X1_offer] at h
  rcases Classical.em (12 ≤ (s.1 11)) with c1 | c1
  · replace h := g_pos c1 h
    rw [← Option.some.inj h]
    exact Kp.rf
  · replace h := g_neg c1 h
    obtain ⟨g2, h⟩ := g_guard h
    obtain ⟨g3, h⟩ := g_guard h
    obtain ⟨g4, h⟩ := g_guard h
    rw [← Option.some.inj h]
    exact (Kp.ss (by decide) (Kp.sa (by decide) (Kp.sa (by decide) (Kp.sa (by decide) Kp.rf))))
theorem fr_X1_offer (s : gS) (x1 : Int32) (x2 : Int32) (x3 : Int32) (r : gS) (h : f_X1_offer s x1 x2 x3 = some r) : Kp [11] [5, 6, 7] s r := fr0_X1_offer r s x1 x2 x3 h
set_option maxHeartbeats 4000000 in
theorem fr_X1_weigh_139 (K2 : gS → Int32 → Int32 → Option gS) (r : gS) (hK2 : ∀ (s : gS) (x1 : Int32) (x3 : Int32) , K2 s x1 x3 = some r → Kp [] [8, 9, 10] s r) : ∀ (s : gS) (x1 : Int32) (x3 : Int32) , f_X1_weigh_139 K2 s x1 x3 = some r → Kp [] [8, 9, 10] s r := by
  intro s x1 x3 h
  rw [f_X1_weigh_139] at h
  exact Kp.tr Kp.rf (hK2 s x1 (x3 + (-1 : Int32)) h)
set_option maxHeartbeats 4000000 in
theorem fr_X1_weigh_99 (K2 : gS → Int32 → Int32 → Option gS) (r : gS) (hK2 : ∀ (s : gS) (x1 : Int32) (x3 : Int32) , K2 s x1 x3 = some r → Kp [] [8, 9, 10] s r) : ∀ (s : gS) (x1 : Int32) (x3 : Int32) (x4 : Int32) (x5 : Int32) (x6 : Int32) , f_X1_weigh_99 K2 s x1 x3 x4 x5 x6 = some r → Kp [] [8, 9, 10] s r := by
  intro s x1 x3 x4 x5 x6 h
  rw [f_X1_weigh_99] at h
  obtain ⟨g1, h⟩ := g_guard h
  obtain ⟨g2, h⟩ := g_guard h
  obtain ⟨g3, h⟩ := g_guard h
  obtain ⟨g4, h⟩ := g_guard h
  obtain ⟨g5, h⟩ := g_guard h
  exact Kp.tr (Kp.sa (by decide) (Kp.sa (by decide) (Kp.sa (by decide) Kp.rf))) (fr_X1_weigh_139 K2 r hK2 (sa (sa (sa s 8 x3.toNatClampNeg x5) 9 x3.toNatClampNeg x6) 10 x3.toNatClampNeg ((s.2 10 x4.toNatClampNeg) ||| (1 <<< (((s.2 5 x1.toNatClampNeg) - 1) &&& 31)))) x1 x3 h)
set_option maxHeartbeats 4000000 in
theorem fr_X1_weigh_70 (K2 : gS → Int32 → Int32 → Option gS) (r : gS) (hK2 : ∀ (s : gS) (x1 : Int32) (x3 : Int32) , K2 s x1 x3 = some r → Kp [] [8, 9, 10] s r) : ∀ (s : gS) (x1 : Int32) (x3 : Int32) (x4 : Int32) (x5 : Int32) (x6 : Int32) (t0 : Int32) , f_X1_weigh_70 K2 s x1 x3 x4 x5 x6 t0 = some r → Kp [] [8, 9, 10] s r := by
  intro s x1 x3 x4 x5 x6 t0 h
  rw [f_X1_weigh_70] at h
  rcases (Classical.em (t0 = 0)).symm with c1 | c1
  · replace h := g_neg c1 h
    exact Kp.tr Kp.rf (fr_X1_weigh_99 K2 r hK2 s x1 x3 x4 x5 x6 h)
  · replace h := g_pos c1 h
    obtain ⟨g2, h⟩ := g_guard h
    rcases (Classical.em (x5 = (s.2 8 x3.toNatClampNeg))).symm with c3 | c3
    · replace h := g_neg c3 h
      exact Kp.tr Kp.rf (fr_X1_weigh_139 K2 r hK2 s x1 x3 h)
    · replace h := g_pos c3 h
      obtain ⟨g4, h⟩ := g_guard h
      rcases Classical.em ((s.2 9 x3.toNatClampNeg) < x6) with c5 | c5
      · replace h := g_pos c5 h
        exact Kp.tr Kp.rf (fr_X1_weigh_139 K2 r hK2 s x1 x3 h)
      · replace h := g_neg c5 h
        exact Kp.tr Kp.rf (fr_X1_weigh_99 K2 r hK2 s x1 x3 x4 x5 x6 h)
set_option maxHeartbeats 4000000 in
theorem fr_X1_weigh_2 (r : gS) : ∀ (φ : Nat) (s : gS) (x1 : Int32) (x3 : Int32) , f_X1_weigh_2 φ s x1 x3 = some r → Kp [] [8, 9, 10] s r := by
  intro φ
  induction φ with
  | zero =>
    intro s x1 x3 h
    exact absurd h (by intro h0; cases h0)
  | succ φ ih =>
    intro s x1 x3 h
    rw [f_X1_weigh_2] at h
    obtain ⟨g1, h⟩ := g_guard h
    rcases Classical.em (x3 < (s.2 7 x1.toNatClampNeg)) with c2 | c2
    · replace h := g_pos c2 h
      rw [← Option.some.inj h]
      exact Kp.rf
    · replace h := g_neg c2 h
      obtain ⟨g3, h⟩ := g_guard h
      obtain ⟨g4, h⟩ := g_guard h
      obtain ⟨g5, h⟩ := g_guard h
      obtain ⟨g6, h⟩ := g_guard h
      obtain ⟨g7, h⟩ := g_guard h
      obtain ⟨g8, h⟩ := g_guard h
      rcases Classical.em (((s.2 8 (x3 - (s.2 7 x1.toNatClampNeg)).toNatClampNeg) + (s.2 6 x1.toNatClampNeg)) ≤ (s.2 8 x3.toNatClampNeg)) with c9 | c9
      · replace h := g_pos c9 h
        exact Kp.tr Kp.rf (fr_X1_weigh_70 (f_X1_weigh_2 φ) r (fun s x1 x3 h => ih s x1 x3 h) s x1 x3 (x3 - (s.2 7 x1.toNatClampNeg)) ((s.2 8 (x3 - (s.2 7 x1.toNatClampNeg)).toNatClampNeg) + (s.2 6 x1.toNatClampNeg)) ((s.2 9 (x3 - (s.2 7 x1.toNatClampNeg)).toNatClampNeg) + (s.2 7 x1.toNatClampNeg)) 0 h)
      · replace h := g_neg c9 h
        exact Kp.tr Kp.rf (fr_X1_weigh_70 (f_X1_weigh_2 φ) r (fun s x1 x3 h => ih s x1 x3 h) s x1 x3 (x3 - (s.2 7 x1.toNatClampNeg)) ((s.2 8 (x3 - (s.2 7 x1.toNatClampNeg)).toNatClampNeg) + (s.2 6 x1.toNatClampNeg)) ((s.2 9 (x3 - (s.2 7 x1.toNatClampNeg)).toNatClampNeg) + (s.2 7 x1.toNatClampNeg)) 1 h)
set_option maxHeartbeats 4000000 in
theorem fr0_X1_weigh (r : gS) : ∀ (s : gS) (x1 : Int32) (x2 : Int32) , f_X1_weigh s x1 x2 = some r → Kp [] [8, 9, 10] s r := by
  intro s x1 x2 h
  rw [f_X1_weigh] at h
  exact Kp.tr Kp.rf (fr_X1_weigh_2 r gφ s x1 x2 h)
theorem fr_X1_weigh (s : gS) (x1 : Int32) (x2 : Int32) (r : gS) (h : f_X1_weigh s x1 x2 = some r) : Kp [] [8, 9, 10] s r := fr0_X1_weigh r s x1 x2 h
set_option maxHeartbeats 4000000 in
theorem fr_X1_choose_45 (r : Int32 × gS) : ∀ (φ : Nat) (s : gS) (x2 : Int32) (x3 : Int32) , f_X1_choose_45 φ s x2 x3 = some r → Kp [] [8, 9, 10] s r.2 := by
  intro φ
  induction φ with
  | zero =>
    intro s x2 x3 h
    exact absurd h (by intro h0; cases h0)
  | succ φ ih =>
    intro s x2 x3 h
    rw [f_X1_choose_45] at h
    rcases Classical.em (x3 < 0) with c1 | c1
    · replace h := g_pos c1 h
      rcases Classical.em (x2 < 0) with c2 | c2
      · replace h := g_pos c2 h
        rw [← Option.some.inj h]
        exact Kp.rf
      · replace h := g_neg c2 h
        obtain ⟨g3, h⟩ := g_guard h
        rw [← Option.some.inj h]
        exact Kp.rf
    · replace h := g_neg c1 h
      obtain ⟨r4, e5, h⟩ := g_bind h
      exact Kp.tr (Kp.tr Kp.rf (Kp.mo (fr_X1_weigh s x3 x2 r4 e5) (by decide) (by decide))) (ih r4 x2 (x3 + (-1 : Int32)) h)
set_option maxHeartbeats 4000000 in
theorem fr0_X1_choose (r : Int32 × gS) : ∀ (s : gS) (x1 : Int32) , f_X1_choose s x1 = some r → Kp [] [8, 9, 10] s r.2 := by
  intro s x1 h
  rw [f_X1_choose] at h
  exact Kp.tr (Kp.sf (by decide) (Kp.sf (by decide) (Kp.sf (by decide) Kp.rf))) (fr_X1_choose_45 r gφ (sf (sf (sf s 8 202 0) 9 202 0) 10 202 0) (if (202 - 1) < (x1 + 1) then (202 - 1) else (x1 + 1)) ((s.1 11) - 1) h)
theorem fr_X1_choose (s : gS) (x1 : Int32) (r : Int32 × gS) (h : f_X1_choose s x1 = some r) : Kp [] [8, 9, 10] s r.2 := fr0_X1_choose r s x1 h
set_option maxHeartbeats 4000000 in
theorem fr0_X8_game (r : Int32 × gS) : ∀ (s : gS) (x1 : Int32) (x2 : Int32) (x3 : Int32) (x4 : Int32) (x5 : Int32) , f_X8_game s x1 x2 x3 x4 x5 = some r → Kp [0, 1, 2, 3, 4, 5, 6, 7, 8, 10] [2] s r.2 := by
  intro s x1 x2 x3 x4 x5 h
  rw [f_X8_game] at h
  obtain ⟨r1, e2, h⟩ := g_bind h
  rcases (Classical.em (r1.1 = 0)).symm with c3 | c3
  · replace h := g_neg c3 h
    obtain ⟨r4, e5, h⟩ := g_bind h
    obtain ⟨r6, e7, h⟩ := g_bind h
    rw [← Option.some.inj h]
    exact (Kp.tr (Kp.tr (Kp.tr Kp.rf (Kp.mo (fr_X0_lay s x1 x2 x3 x4 x5 r1 e2) (by decide) (by decide))) (Kp.mo (fr_X3_clear r1.2 r4 e5) (by decide) (by decide))) (Kp.mo (fr_X2_forgetAll r4 r6 e7) (by decide) (by decide)))
  · replace h := g_pos c3 h
    rw [← Option.some.inj h]
    exact (Kp.tr Kp.rf (Kp.mo (fr_X0_lay s x1 x2 x3 x4 x5 r1 e2) (by decide) (by decide)))
theorem fr_X8_game (s : gS) (x1 : Int32) (x2 : Int32) (x3 : Int32) (x4 : Int32) (x5 : Int32) (r : Int32 × gS) (h : f_X8_game s x1 x2 x3 x4 x5 = some r) : Kp [0, 1, 2, 3, 4, 5, 6, 7, 8, 10] [2] s r.2 := fr0_X8_game r s x1 x2 x3 x4 x5 h
set_option maxHeartbeats 4000000 in
theorem fr0_X8_setStone (r : Int32 × gS) : ∀ (s : gS) (x1 : Int32) , f_X8_setStone s x1 = some r → Kp [7, 8, 10] [0, 2] s r.2 := by
  intro s x1 h
  rw [f_X8_setStone] at h
  obtain ⟨r1, e2, h⟩ := g_bind h
  rcases (Classical.em (r1.1 = 0)).symm with c3 | c3
  · replace h := g_neg c3 h
    obtain ⟨r4, e5, h⟩ := g_bind h
    rw [← Option.some.inj h]
    exact (Kp.tr (Kp.tr Kp.rf (Kp.mo (fr_X3_addMove s x1 r1 e2) (by decide) (by decide))) (Kp.mo (fr_X2_forgetMove r1.2 (r1.2.1 7) r4 e5) (by decide) (by decide)))
  · replace h := g_pos c3 h
    rw [← Option.some.inj h]
    exact (Kp.tr Kp.rf (Kp.mo (fr_X3_addMove s x1 r1 e2) (by decide) (by decide)))
theorem fr_X8_setStone (s : gS) (x1 : Int32) (r : Int32 × gS) (h : f_X8_setStone s x1 = some r) : Kp [7, 8, 10] [0, 2] s r.2 := fr0_X8_setStone r s x1 h
set_option maxHeartbeats 4000000 in
theorem fr0_X8_play (r : Int32 × gS) : ∀ (s : gS) (x1 : Int32) , f_X8_play s x1 = some r → Kp [7, 8, 10] [0, 2] s r.2 := by
  intro s x1 h
  rw [f_X8_play] at h
  obtain ⟨r1, e2, h⟩ := g_bind h
  obtain ⟨r3, e4, h⟩ := g_bind h
  rcases Classical.em (r3.1 = 0) with c5 | c5
  · replace h := g_pos c5 h
    rw [← Option.some.inj h]
    exact (Kp.tr Kp.rf (Kp.mo (fr_X8_setStone s r1 r3 e4) (by decide) (by decide)))
  · replace h := g_neg c5 h
    rw [← Option.some.inj h]
    exact (Kp.tr Kp.rf (Kp.mo (fr_X8_setStone s r1 r3 e4) (by decide) (by decide)))
theorem fr_X8_play (s : gS) (x1 : Int32) (r : Int32 × gS) (h : f_X8_play s x1 = some r) : Kp [7, 8, 10] [0, 2] s r.2 := fr0_X8_play r s x1 h
set_option maxHeartbeats 4000000 in
theorem fr0_X8_back (r : Int32 × gS) : ∀ (s : gS) , f_X8_back s = some r → Kp [7, 8] [] s r.2 := by
  intro s h
  rw [f_X8_back] at h
  obtain ⟨r1, e2, h⟩ := g_bind h
  rcases Classical.em (r1.1 = 0) with c3 | c3
  · replace h := g_pos c3 h
    rw [← Option.some.inj h]
    exact (Kp.tr Kp.rf (Kp.mo (fr_X3_takeBack s r1 e2) (by decide) (by decide)))
  · replace h := g_neg c3 h
    rw [← Option.some.inj h]
    exact (Kp.tr Kp.rf (Kp.mo (fr_X3_takeBack s r1 e2) (by decide) (by decide)))
theorem fr_X8_back (s : gS) (r : Int32 × gS) (h : f_X8_back s = some r) : Kp [7, 8] [] s r.2 := fr0_X8_back r s h
set_option maxHeartbeats 4000000 in
theorem fr0_X8_depth (r : Int32 × gS) : ∀ (s : gS) (x1 : Int32) , f_X8_depth s x1 = some r → Kp [9, 10] [] s r.2 := by
  intro s x1 h
  rw [f_X8_depth] at h
  obtain ⟨r1, e2, h⟩ := g_bind h
  obtain ⟨g3, h⟩ := g_guard h
  rw [← Option.some.inj h]
  exact (Kp.tr Kp.rf (Kp.mo (fr_X2_tellDepth s x1 r1 e2) (by decide) (by decide)))
theorem fr_X8_depth (s : gS) (x1 : Int32) (r : Int32 × gS) (h : f_X8_depth s x1 = some r) : Kp [9, 10] [] s r.2 := fr0_X8_depth r s x1 h
set_option maxHeartbeats 4000000 in
theorem fr0_X8_weight (r : Int32 × gS) : ∀ (s : gS) (x1 : Int32) (x2 : Int32) , f_X8_weight s x1 x2 = some r → Kp [] [1] s r.2 := by
  intro s x1 x2 h
  rw [f_X8_weight] at h
  obtain ⟨r1, e2, h⟩ := g_bind h
  obtain ⟨g3, h⟩ := g_guard h
  rw [← Option.some.inj h]
  exact (Kp.tr Kp.rf (Kp.mo (fr_X2_tellWeight s x1 x2 r1 e2) (by decide) (by decide)))
theorem fr_X8_weight (s : gS) (x1 : Int32) (x2 : Int32) (r : Int32 × gS) (h : f_X8_weight s x1 x2 = some r) : Kp [] [1] s r.2 := fr0_X8_weight r s x1 x2 h
set_option maxHeartbeats 4000000 in
theorem fr0_X8_value (r : Int32 × gS) : ∀ (s : gS) (x1 : Int32) (x2 : Int32) , f_X8_value s x1 x2 = some r → Kp [] [2] s r.2 := by
  intro s x1 x2 h
  rw [f_X8_value] at h
  obtain ⟨r1, e2, h⟩ := g_bind h
  rcases Classical.em (r1 = 0) with c3 | c3
  · replace h := g_pos c3 h
    rw [← Option.some.inj h]
    exact Kp.rf
  · replace h := g_neg c3 h
    rcases Classical.em (x2 < 0) with c4 | c4
    · replace h := g_pos c4 h
      rw [← Option.some.inj h]
      exact Kp.rf
    · replace h := g_neg c4 h
      rcases Classical.em (x2 ≤ 5) with c5 | c5
      · replace h := g_pos c5 h
        obtain ⟨r6, e7, h⟩ := g_bind h
        rw [← Option.some.inj h]
        exact (Kp.tr Kp.rf (Kp.mo (fr_X2_valueBehind s x1 x2 r6 e7) (by decide) (by decide)))
      · replace h := g_neg c5 h
        rw [← Option.some.inj h]
        exact Kp.rf
theorem fr_X8_value (s : gS) (x1 : Int32) (x2 : Int32) (r : Int32 × gS) (h : f_X8_value s x1 x2 = some r) : Kp [] [2] s r.2 := fr0_X8_value r s x1 x2 h
set_option maxHeartbeats 4000000 in
theorem fr_X8_best_129 (r : Int32 × gS) : ∀ (s : gS) (t1 : Int32) , f_X8_best_129 s t1 = some r → Kp [] [2] s r.2 := by
  intro s t1 h
  rw [f_X8_best_129] at h
  obtain ⟨r1, e2, h⟩ := g_bind h
  rw [← Option.some.inj h]
  exact Kp.rf
set_option maxHeartbeats 4000000 in
theorem fr_X8_best_92 (r : Int32 × gS) : ∀ (s : gS) (x2 : Int32) (x3 : Int32) (x4 : Int32) (x5 : Int32) (x6 : Int32) (t0 : Int32) , f_X8_best_92 s x2 x3 x4 x5 x6 t0 = some r → Kp [] [2] s r.2 := by
  intro s x2 x3 x4 x5 x6 t0 h
  rw [f_X8_best_92] at h
  rcases Classical.em (t0 = 0) with c1 | c1
  · replace h := g_pos c1 h
    obtain ⟨r2, e3, h⟩ := g_bind h
    exact Kp.tr Kp.rf (fr_X8_best_129 r s r2 h)
  · replace h := g_neg c1 h
    exact Kp.tr Kp.rf (fr_X8_best_129 r s (x5 &&& (-x5)) h)
set_option maxHeartbeats 4000000 in
theorem fr0_X8_best (r : Int32 × gS) : ∀ (s : gS) (x1 : Int32) (x2 : Int32) , f_X8_best s x1 x2 = some r → Kp [] [2] s r.2 := by
  intro s x1 x2 h
  rw [f_X8_best] at h
  obtain ⟨r1, e2, h⟩ := g_bind h
  rcases Classical.em (r1 = 0) with c3 | c3
  · replace h := g_pos c3 h
    rw [← Option.some.inj h]
    exact Kp.rf
  · replace h := g_neg c3 h
    rcases Classical.em (x2 < 1) with c4 | c4
    · replace h := g_pos c4 h
      rw [← Option.some.inj h]
      exact Kp.rf
    · replace h := g_neg c4 h
      rcases Classical.em (5 < x2) with c5 | c5
      · replace h := g_pos c5 h
        rw [← Option.some.inj h]
        exact Kp.rf
      · replace h := g_neg c5 h
        obtain ⟨r6, e7, h⟩ := g_bind h
        rcases Classical.em (r6 = 0) with c8 | c8
        · replace h := g_pos c8 h
          obtain ⟨r9, e10, h⟩ := g_bind h
          obtain ⟨r11, e12, h⟩ := g_bind h
          obtain ⟨r13, e14, h⟩ := g_bind h
          obtain ⟨r15, e16, h⟩ := g_bind h
          rcases Classical.em (0 ≤ r15.1) with c17 | c17
          · replace h := g_pos c17 h
            exact Kp.tr (Kp.tr Kp.rf (Kp.mo (fr_X2_valueBehind s x1 x2 r15 e16) (by decide) (by decide))) (fr_X8_best_92 r r15.2 x2 r9 r11 r13 r15.1 0 h)
          · replace h := g_neg c17 h
            exact Kp.tr (Kp.tr Kp.rf (Kp.mo (fr_X2_valueBehind s x1 x2 r15 e16) (by decide) (by decide))) (fr_X8_best_92 r r15.2 x2 r9 r11 r13 r15.1 1 h)
        · replace h := g_neg c8 h
          rw [← Option.some.inj h]
          exact Kp.rf
theorem fr_X8_best (s : gS) (x1 : Int32) (x2 : Int32) (r : Int32 × gS) (h : f_X8_best s x1 x2 = some r) : Kp [] [2] s r.2 := fr0_X8_best r s x1 x2 h
set_option maxHeartbeats 4000000 in
theorem fr0_X8_found (r : Int32 × gS) : ∀ (s : gS) (x1 : Int32) (x2 : Int32) , f_X8_found s x1 x2 = some r → Kp [10] [2, 3] s r.2 := by
  intro s x1 x2 h
  rw [f_X8_found] at h
  obtain ⟨r1, e2, h⟩ := g_bind h
  rcases Classical.em (r1 = 0) with c3 | c3
  · replace h := g_pos c3 h
    rw [← Option.some.inj h]
    exact Kp.rf
  · replace h := g_neg c3 h
    rcases Classical.em (x2 < 0) with c4 | c4
    · replace h := g_pos c4 h
      rw [← Option.some.inj h]
      exact Kp.rf
    · replace h := g_neg c4 h
      rcases Classical.em (x2 < 6) with c5 | c5
      · replace h := g_pos c5 h
        obtain ⟨r6, e7, h⟩ := g_bind h
        obtain ⟨r8, e9, h⟩ := g_bind h
        rw [← Option.some.inj h]
        exact (Kp.tr Kp.rf (Kp.mo (fr_X2_examine s r6 e7) (by decide) (by decide)))
      · replace h := g_neg c5 h
        rw [← Option.some.inj h]
        exact Kp.rf
theorem fr_X8_found (s : gS) (x1 : Int32) (x2 : Int32) (r : Int32 × gS) (h : f_X8_found s x1 x2 = some r) : Kp [10] [2, 3] s r.2 := fr0_X8_found r s x1 x2 h
set_option maxHeartbeats 4000000 in
theorem fr0_X8_leader (r : Int32 × gS) : ∀ (s : gS) (x1 : Int32) , f_X8_leader s x1 = some r → Kp [] [2] s r.2 := by
  intro s x1 h
  rw [f_X8_leader] at h
  obtain ⟨r1, e2, h⟩ := g_bind h
  rcases Classical.em (r1 = 0) with c3 | c3
  · replace h := g_pos c3 h
    rw [← Option.some.inj h]
    exact Kp.rf
  · replace h := g_neg c3 h
    obtain ⟨r4, e5, h⟩ := g_bind h
    rw [← Option.some.inj h]
    exact (Kp.tr Kp.rf (Kp.mo (fr_X2_leaderBehind s x1 r4 e5) (by decide) (by decide)))
theorem fr_X8_leader (s : gS) (x1 : Int32) (r : Int32 × gS) (h : f_X8_leader s x1 = some r) : Kp [] [2] s r.2 := fr0_X8_leader r s x1 h
set_option maxHeartbeats 4000000 in
theorem fr0_X7_clearb (r : gS) : ∀ (s : gS) , f_X7_clearb s = some r → Kp [18] [] s r := by
  intro s h
  rw [f_X7_clearb] at h
  rw [← Option.some.inj h]
  exact (Kp.ss (by decide) Kp.rf)
theorem fr_X7_clearb (s : gS) (r : gS) (h : f_X7_clearb s = some r) : Kp [18] [] s r := fr0_X7_clearb r s h
set_option maxHeartbeats 4000000 in
theorem fr0_X7_addByteb (r : gS) : ∀ (s : gS) (x1 : Int32) , f_X7_addByteb s x1 = some r → Kp [18] [12] s r := by
  intro s x1 h
  rw [f_X7_addByteb] at h
  rcases Classical.em (272 ≤ (s.1 18)) with c1 | c1
  · replace h := g_pos c1 h
    rw [← Option.some.inj h]
    exact Kp.rf
  · replace h := g_neg c1 h
    obtain ⟨g2, h⟩ := g_guard h
    rw [← Option.some.inj h]
    exact (Kp.ss (by decide) (Kp.sa (by decide) Kp.rf))
theorem fr_X7_addByteb (s : gS) (x1 : Int32) (r : gS) (h : f_X7_addByteb s x1 = some r) : Kp [18] [12] s r := fr0_X7_addByteb r s x1 h
set_option maxHeartbeats 4000000 in
theorem fr_X7_addNumberb_17 (r : gS) : ∀ (s : gS) (x1 : Int32) , f_X7_addNumberb_17 s x1 = some r → Kp [18] [12] s r := by
  intro s x1 h
  rw [f_X7_addNumberb_17] at h
  obtain ⟨r1, e2, h⟩ := g_bind h
  rw [← Option.some.inj h]
  exact (Kp.tr Kp.rf (Kp.mo (fr_X7_addByteb s (48 + (x1 - x1 / 10 * 10)) r1 e2) (by decide) (by decide)))
set_option maxHeartbeats 4000000 in
theorem fr0_X7_addNumberb (r : gS) : ∀ (s : gS) (x1 : Int32) , f_X7_addNumberb s x1 = some r → Kp [18] [12] s r := by
  intro s x1 h
  rw [f_X7_addNumberb] at h
  rcases Classical.em (x1 < 10) with c1 | c1
  · replace h := g_pos c1 h
    exact Kp.tr Kp.rf (fr_X7_addNumberb_17 r s x1 h)
  · replace h := g_neg c1 h
    obtain ⟨r2, e3, h⟩ := g_bind h
    exact Kp.tr (Kp.tr Kp.rf (Kp.mo (fr_X7_addByteb s (48 + (x1 / 10)) r2 e3) (by decide) (by decide))) (fr_X7_addNumberb_17 r r2 x1 h)
theorem fr_X7_addNumberb (s : gS) (x1 : Int32) (r : gS) (h : f_X7_addNumberb s x1 = some r) : Kp [18] [12] s r := fr0_X7_addNumberb r s x1 h
set_option maxHeartbeats 4000000 in
theorem fr0_X4_writeCellb (r : gS) : ∀ (s : gS) (x2 : Int32) , f_X4_writeCellb s x2 = some r → Kp [18] [12] s r := by
  intro s x2 h
  rw [f_X4_writeCellb] at h
  obtain ⟨r1, e2, h⟩ := g_bind h
  obtain ⟨r3, e4, h⟩ := g_bind h
  obtain ⟨r5, e6, h⟩ := g_bind h
  obtain ⟨r7, e8, h⟩ := g_bind h
  rw [← Option.some.inj h]
  exact (Kp.tr (Kp.tr Kp.rf (Kp.mo (fr_X7_addByteb s (97 + r1) r3 e4) (by decide) (by decide))) (Kp.mo (fr_X7_addByteb r3 (49 + r5) r7 e8) (by decide) (by decide)))
theorem fr_X4_writeCellb (s : gS) (x2 : Int32) (r : gS) (h : f_X4_writeCellb s x2 = some r) : Kp [18] [12] s r := fr0_X4_writeCellb r s x2 h
set_option maxHeartbeats 4000000 in
theorem fr_X4_writeSignsb_3 (r : gS) : ∀ (φ : Nat) (s : gS) (x2 : Int32) (x3 : Int32) (x4 : Int32) , f_X4_writeSignsb_3 φ s x2 x3 x4 = some r → Kp [18] [12] s r := by
  intro φ
  induction φ with
  | zero =>
    intro s x2 x3 x4 h
    exact absurd h (by intro h0; cases h0)
  | succ φ ih =>
    intro s x2 x3 x4 h
    rw [f_X4_writeSignsb_3] at h
    rcases Classical.em (x3 ≤ x4) with c1 | c1
    · replace h := g_pos c1 h
      rw [← Option.some.inj h]
      exact Kp.rf
    · replace h := g_neg c1 h
      obtain ⟨r2, e3, h⟩ := g_bind h
      exact Kp.tr (Kp.tr Kp.rf (Kp.mo (fr_X7_addByteb s x2 r2 e3) (by decide) (by decide))) (ih r2 x2 x3 (x4 + 1) h)
set_option maxHeartbeats 4000000 in
theorem fr0_X4_writeSignsb (r : gS) : ∀ (s : gS) (x2 : Int32) (x3 : Int32) , f_X4_writeSignsb s x2 x3 = some r → Kp [18] [12] s r := by
  intro s x2 x3 h
  rw [f_X4_writeSignsb] at h
  exact Kp.tr Kp.rf (fr_X4_writeSignsb_3 r gφ s x2 x3 0 h)
theorem fr_X4_writeSignsb (s : gS) (x2 : Int32) (x3 : Int32) (r : gS) (h : f_X4_writeSignsb s x2 x3 = some r) : Kp [18] [12] s r := fr0_X4_writeSignsb r s x2 x3 h
set_option maxHeartbeats 4000000 in
theorem fr_X4_writeWordsb_137 (r : gS) : ∀ (s : gS) (x2 : Int32) (x3 : Int32) , f_X4_writeWordsb_137 s x2 x3 = some r → Kp [18] [12] s r := by
  intro s x2 x3 h
  rw [f_X4_writeWordsb_137] at h
  rcases (Classical.em (x3 = 1)).symm with c1 | c1
  · replace h := g_neg c1 h
    rw [← Option.some.inj h]
    exact Kp.rf
  · replace h := g_pos c1 h
    obtain ⟨r2, e3, h⟩ := g_bind h
    obtain ⟨r4, e5, h⟩ := g_bind h
    rw [← Option.some.inj h]
    exact (Kp.tr Kp.rf (Kp.mo (fr_X4_writeSignsb s 61 r2 r4 e5) (by decide) (by decide)))
set_option maxHeartbeats 4000000 in
theorem fr_X4_writeWordsb_105 (r : gS) : ∀ (s : gS) (x2 : Int32) (x3 : Int32) , f_X4_writeWordsb_105 s x2 x3 = some r → Kp [18] [12] s r := by
  intro s x2 x3 h
  rw [f_X4_writeWordsb_105] at h
  obtain ⟨r1, e2, h⟩ := g_bind h
  rcases Classical.em (r1 = 0) with c3 | c3
  · replace h := g_pos c3 h
    exact Kp.tr Kp.rf (fr_X4_writeWordsb_137 r s x2 x3 h)
  · replace h := g_neg c3 h
    obtain ⟨r4, e5, h⟩ := g_bind h
    obtain ⟨r6, e7, h⟩ := g_bind h
    exact Kp.tr (Kp.tr (Kp.tr Kp.rf (Kp.mo (fr_X7_addByteb s 42 r4 e5) (by decide) (by decide))) (Kp.mo (fr_X4_writeCellb r4 (r1 &&& (-r1)) r6 e7) (by decide) (by decide))) (fr_X4_writeWordsb_137 r r6 x2 x3 h)
set_option maxHeartbeats 4000000 in
theorem fr_X4_writeWordsb_68 (r : gS) : ∀ (s : gS) (x2 : Int32) (x3 : Int32) , f_X4_writeWordsb_68 s x2 x3 = some r → Kp [18] [12] s r := by
  intro s x2 x3 h
  rw [f_X4_writeWordsb_68] at h
  rcases (Classical.em (x3 = 1)).symm with c1 | c1
  · replace h := g_neg c1 h
    exact Kp.tr Kp.rf (fr_X4_writeWordsb_105 r s x2 x3 h)
  · replace h := g_pos c1 h
    obtain ⟨r2, e3, h⟩ := g_bind h
    obtain ⟨r4, e5, h⟩ := g_bind h
    obtain ⟨r6, e7, h⟩ := g_bind h
    obtain ⟨r8, e9, h⟩ := g_bind h
    exact Kp.tr (Kp.tr (Kp.tr Kp.rf (Kp.mo (fr_X4_writeSignsb s 33 r2 r4 e5) (by decide) (by decide))) (Kp.mo (fr_X4_writeSignsb r4 63 r6 r8 e9) (by decide) (by decide))) (fr_X4_writeWordsb_105 r r8 x2 x3 h)
set_option maxHeartbeats 4000000 in
theorem fr0_X4_writeWordsb (r : gS) : ∀ (s : gS) (x2 : Int32) (x3 : Int32) , f_X4_writeWordsb s x2 x3 = some r → Kp [18] [12] s r := by
  intro s x2 x3 h
  rw [f_X4_writeWordsb] at h
  obtain ⟨r1, e2, h⟩ := g_bind h
  obtain ⟨r3, e4, h⟩ := g_bind h
  obtain ⟨r5, e6, h⟩ := g_bind h
  obtain ⟨r7, e8, h⟩ := g_bind h
  obtain ⟨r9, e10, h⟩ := g_bind h
  obtain ⟨r11, e12, h⟩ := g_bind h
  obtain ⟨r13, e14, h⟩ := g_bind h
  rcases Classical.em (r13 ≤ 0) with c15 | c15
  · replace h := g_pos c15 h
    exact Kp.tr (Kp.tr (Kp.tr (Kp.tr (Kp.tr Kp.rf (Kp.mo (fr_X7_addNumberb s x2 r1 e2) (by decide) (by decide))) (Kp.mo (fr_X7_addByteb r1 46 r3 e4) (by decide) (by decide))) (Kp.mo (fr_X4_writeCellb r3 r5 r7 e8) (by decide) (by decide))) (Kp.mo (fr_X4_writeSignsb r7 35 r9 r11 e12) (by decide) (by decide))) (fr_X4_writeWordsb_68 r r11 x2 x3 h)
  · replace h := g_neg c15 h
    obtain ⟨r16, e17, h⟩ := g_bind h
    obtain ⟨r18, e19, h⟩ := g_bind h
    exact Kp.tr (Kp.tr (Kp.tr (Kp.tr (Kp.tr (Kp.tr (Kp.tr Kp.rf (Kp.mo (fr_X7_addNumberb s x2 r1 e2) (by decide) (by decide))) (Kp.mo (fr_X7_addByteb r1 46 r3 e4) (by decide) (by decide))) (Kp.mo (fr_X4_writeCellb r3 r5 r7 e8) (by decide) (by decide))) (Kp.mo (fr_X4_writeSignsb r7 35 r9 r11 e12) (by decide) (by decide))) (Kp.mo (fr_X7_addByteb r11 43 r16 e17) (by decide) (by decide))) (Kp.mo (fr_X7_addNumberb r16 r13 r18 e19) (by decide) (by decide))) (fr_X4_writeWordsb_68 r r18 x2 x3 h)
theorem fr_X4_writeWordsb (s : gS) (x2 : Int32) (x3 : Int32) (r : gS) (h : f_X4_writeWordsb s x2 x3 = some r) : Kp [18] [12] s r := fr0_X4_writeWordsb r s x2 x3 h
set_option maxHeartbeats 4000000 in
theorem fr0_X8_words (r : Int32 × gS) : ∀ (s : gS) (x1 : Int32) (x2 : Int32) , f_X8_words s x1 x2 = some r → Kp [10, 18] [2, 3, 12] s r.2 := by
  intro s x1 x2 h
  rw [f_X8_words] at h
  obtain ⟨r1, e2, h⟩ := g_bind h
  rcases Classical.em (r1 = 0) with c3 | c3
  · replace h := g_pos c3 h
    rw [← Option.some.inj h]
    exact Kp.rf
  · replace h := g_neg c3 h
    obtain ⟨r4, e5, h⟩ := g_bind h
    rcases (Classical.em (r4 = 0)).symm with c6 | c6
    · replace h := g_neg c6 h
      obtain ⟨r7, e8, h⟩ := g_bind h
      obtain ⟨r9, e10, h⟩ := g_bind h
      obtain ⟨r11, e12, h⟩ := g_bind h
      rw [← Option.some.inj h]
      exact (Kp.tr (Kp.tr (Kp.tr Kp.rf (Kp.mo (fr_X2_examine s r7 e8) (by decide) (by decide))) (Kp.mo (fr_X7_clearb r7 r9 e10) (by decide) (by decide))) (Kp.mo (fr_X4_writeWordsb r9 x1 x2 r11 e12) (by decide) (by decide)))
    · replace h := g_pos c6 h
      rw [← Option.some.inj h]
      exact Kp.rf
theorem fr_X8_words (s : gS) (x1 : Int32) (x2 : Int32) (r : Int32 × gS) (h : f_X8_words s x1 x2 = some r) : Kp [10, 18] [2, 3, 12] s r.2 := fr0_X8_words r s x1 x2 h
set_option maxHeartbeats 4000000 in
theorem fr_X8_tale_50 (K25 : gS → Int32 → Int32 → Option (Int32 × gS)) (r : Int32 × gS) (hK25 : ∀ (s : gS) (x1 : Int32) (x2 : Int32) , K25 s x1 x2 = some r → Kp [10, 18] [2, 3, 12] s r.2) : ∀ (s : gS) (x1 : Int32) (x2 : Int32) , f_X8_tale_50 K25 s x1 x2 = some r → Kp [10, 18] [2, 3, 12] s r.2 := by
  intro s x1 x2 h
  rw [f_X8_tale_50] at h
  obtain ⟨r1, e2, h⟩ := g_bind h
  exact Kp.tr (Kp.tr Kp.rf (Kp.mo (fr_X4_writeWordsb s x2 x1 r1 e2) (by decide) (by decide))) (hK25 r1 x1 (x2 + 1) h)
set_option maxHeartbeats 4000000 in
theorem fr_X8_tale_25 (r : Int32 × gS) : ∀ (φ : Nat) (s : gS) (x1 : Int32) (x2 : Int32) , f_X8_tale_25 φ s x1 x2 = some r → Kp [10, 18] [2, 3, 12] s r.2 := by
  intro φ
  induction φ with
  | zero =>
    intro s x1 x2 h
    exact absurd h (by intro h0; cases h0)
  | succ φ ih =>
    intro s x1 x2 h
    rw [f_X8_tale_25] at h
    rcases Classical.em ((s.1 7) < x2) with c1 | c1
    · replace h := g_pos c1 h
      rw [← Option.some.inj h]
      exact Kp.rf
    · replace h := g_neg c1 h
      rcases Classical.em (x2 ≤ 1) with c2 | c2
      · replace h := g_pos c2 h
        exact Kp.tr Kp.rf (fr_X8_tale_50 (f_X8_tale_25 φ) r (fun s x1 x2 h => ih s x1 x2 h) s x1 x2 h)
      · replace h := g_neg c2 h
        obtain ⟨r3, e4, h⟩ := g_bind h
        exact Kp.tr (Kp.tr Kp.rf (Kp.mo (fr_X7_addByteb s 32 r3 e4) (by decide) (by decide))) (fr_X8_tale_50 (f_X8_tale_25 φ) r (fun s x1 x2 h => ih s x1 x2 h) r3 x1 x2 h)
set_option maxHeartbeats 4000000 in
theorem fr0_X8_tale (r : Int32 × gS) : ∀ (s : gS) (x1 : Int32) , f_X8_tale s x1 = some r → Kp [10, 18] [2, 3, 12] s r.2 := by
  intro s x1 h
  rw [f_X8_tale] at h
  obtain ⟨r1, e2, h⟩ := g_bind h
  rcases (Classical.em (r1 = 0)).symm with c3 | c3
  · replace h := g_neg c3 h
    obtain ⟨r4, e5, h⟩ := g_bind h
    obtain ⟨r6, e7, h⟩ := g_bind h
    exact Kp.tr (Kp.tr (Kp.tr Kp.rf (Kp.mo (fr_X2_examine s r4 e5) (by decide) (by decide))) (Kp.mo (fr_X7_clearb r4 r6 e7) (by decide) (by decide))) (fr_X8_tale_25 r gφ r6 x1 1 h)
  · replace h := g_pos c3 h
    rw [← Option.some.inj h]
    exact Kp.rf
theorem fr_X8_tale (s : gS) (x1 : Int32) (r : Int32 × gS) (h : f_X8_tale s x1 = some r) : Kp [10, 18] [2, 3, 12] s r.2 := fr0_X8_tale r s x1 h
set_option maxHeartbeats 4000000 in
theorem fr0_X7_cleara (r : gS) : ∀ (s : gS) , f_X7_cleara s = some r → Kp [17] [] s r := by
  intro s h
  rw [f_X7_cleara] at h
  rw [← Option.some.inj h]
  exact (Kp.ss (by decide) Kp.rf)
theorem fr_X7_cleara (s : gS) (r : gS) (h : f_X7_cleara s = some r) : Kp [17] [] s r := fr0_X7_cleara r s h
set_option maxHeartbeats 4000000 in
theorem fr0_X7_addBytea (r : gS) : ∀ (s : gS) (x1 : Int32) , f_X7_addBytea s x1 = some r → Kp [17] [4] s r := by
  intro s x1 h
  rw [f_X7_addBytea] at h
  rcases Classical.em (272 ≤ (s.1 17)) with c1 | c1
  · replace h := g_pos c1 h
    rw [← Option.some.inj h]
    exact Kp.rf
  · replace h := g_neg c1 h
    obtain ⟨g2, h⟩ := g_guard h
    rw [← Option.some.inj h]
    exact (Kp.ss (by decide) (Kp.sa (by decide) Kp.rf))
theorem fr_X7_addBytea (s : gS) (x1 : Int32) (r : gS) (h : f_X7_addBytea s x1 = some r) : Kp [17] [4] s r := fr0_X7_addBytea r s x1 h
set_option maxHeartbeats 4000000 in
theorem fr_X7_addNumbera_17 (r : gS) : ∀ (s : gS) (x1 : Int32) , f_X7_addNumbera_17 s x1 = some r → Kp [17] [4] s r := by
  intro s x1 h
  rw [f_X7_addNumbera_17] at h
  obtain ⟨r1, e2, h⟩ := g_bind h
  rw [← Option.some.inj h]
  exact (Kp.tr Kp.rf (Kp.mo (fr_X7_addBytea s (48 + (x1 - x1 / 10 * 10)) r1 e2) (by decide) (by decide)))
set_option maxHeartbeats 4000000 in
theorem fr0_X7_addNumbera (r : gS) : ∀ (s : gS) (x1 : Int32) , f_X7_addNumbera s x1 = some r → Kp [17] [4] s r := by
  intro s x1 h
  rw [f_X7_addNumbera] at h
  rcases Classical.em (x1 < 10) with c1 | c1
  · replace h := g_pos c1 h
    exact Kp.tr Kp.rf (fr_X7_addNumbera_17 r s x1 h)
  · replace h := g_neg c1 h
    obtain ⟨r2, e3, h⟩ := g_bind h
    exact Kp.tr (Kp.tr Kp.rf (Kp.mo (fr_X7_addBytea s (48 + (x1 / 10)) r2 e3) (by decide) (by decide))) (fr_X7_addNumbera_17 r r2 x1 h)
theorem fr_X7_addNumbera (s : gS) (x1 : Int32) (r : gS) (h : f_X7_addNumbera s x1 = some r) : Kp [17] [4] s r := fr0_X7_addNumbera r s x1 h
set_option maxHeartbeats 4000000 in
theorem fr0_X4_writeCella (r : gS) : ∀ (s : gS) (x2 : Int32) , f_X4_writeCella s x2 = some r → Kp [17] [4] s r := by
  intro s x2 h
  rw [f_X4_writeCella] at h
  obtain ⟨r1, e2, h⟩ := g_bind h
  obtain ⟨r3, e4, h⟩ := g_bind h
  obtain ⟨r5, e6, h⟩ := g_bind h
  obtain ⟨r7, e8, h⟩ := g_bind h
  rw [← Option.some.inj h]
  exact (Kp.tr (Kp.tr Kp.rf (Kp.mo (fr_X7_addBytea s (97 + r1) r3 e4) (by decide) (by decide))) (Kp.mo (fr_X7_addBytea r3 (49 + r5) r7 e8) (by decide) (by decide)))
theorem fr_X4_writeCella (s : gS) (x2 : Int32) (r : gS) (h : f_X4_writeCella s x2 = some r) : Kp [17] [4] s r := fr0_X4_writeCella r s x2 h
set_option maxHeartbeats 4000000 in
theorem fr_X4_writeSignsa_3 (r : gS) : ∀ (φ : Nat) (s : gS) (x2 : Int32) (x3 : Int32) (x4 : Int32) , f_X4_writeSignsa_3 φ s x2 x3 x4 = some r → Kp [17] [4] s r := by
  intro φ
  induction φ with
  | zero =>
    intro s x2 x3 x4 h
    exact absurd h (by intro h0; cases h0)
  | succ φ ih =>
    intro s x2 x3 x4 h
    rw [f_X4_writeSignsa_3] at h
    rcases Classical.em (x3 ≤ x4) with c1 | c1
    · replace h := g_pos c1 h
      rw [← Option.some.inj h]
      exact Kp.rf
    · replace h := g_neg c1 h
      obtain ⟨r2, e3, h⟩ := g_bind h
      exact Kp.tr (Kp.tr Kp.rf (Kp.mo (fr_X7_addBytea s x2 r2 e3) (by decide) (by decide))) (ih r2 x2 x3 (x4 + 1) h)
set_option maxHeartbeats 4000000 in
theorem fr0_X4_writeSignsa (r : gS) : ∀ (s : gS) (x2 : Int32) (x3 : Int32) , f_X4_writeSignsa s x2 x3 = some r → Kp [17] [4] s r := by
  intro s x2 x3 h
  rw [f_X4_writeSignsa] at h
  exact Kp.tr Kp.rf (fr_X4_writeSignsa_3 r gφ s x2 x3 0 h)
theorem fr_X4_writeSignsa (s : gS) (x2 : Int32) (x3 : Int32) (r : gS) (h : f_X4_writeSignsa s x2 x3 = some r) : Kp [17] [4] s r := fr0_X4_writeSignsa r s x2 x3 h
set_option maxHeartbeats 4000000 in
theorem fr_X4_writeWordsa_137 (r : gS) : ∀ (s : gS) (x2 : Int32) (x3 : Int32) , f_X4_writeWordsa_137 s x2 x3 = some r → Kp [17] [4] s r := by
  intro s x2 x3 h
  rw [f_X4_writeWordsa_137] at h
  rcases (Classical.em (x3 = 1)).symm with c1 | c1
  · replace h := g_neg c1 h
    rw [← Option.some.inj h]
    exact Kp.rf
  · replace h := g_pos c1 h
    obtain ⟨r2, e3, h⟩ := g_bind h
    obtain ⟨r4, e5, h⟩ := g_bind h
    rw [← Option.some.inj h]
    exact (Kp.tr Kp.rf (Kp.mo (fr_X4_writeSignsa s 61 r2 r4 e5) (by decide) (by decide)))
set_option maxHeartbeats 4000000 in
theorem fr_X4_writeWordsa_105 (r : gS) : ∀ (s : gS) (x2 : Int32) (x3 : Int32) , f_X4_writeWordsa_105 s x2 x3 = some r → Kp [17] [4] s r := by
  intro s x2 x3 h
  rw [f_X4_writeWordsa_105] at h
  obtain ⟨r1, e2, h⟩ := g_bind h
  rcases Classical.em (r1 = 0) with c3 | c3
  · replace h := g_pos c3 h
    exact Kp.tr Kp.rf (fr_X4_writeWordsa_137 r s x2 x3 h)
  · replace h := g_neg c3 h
    obtain ⟨r4, e5, h⟩ := g_bind h
    obtain ⟨r6, e7, h⟩ := g_bind h
    exact Kp.tr (Kp.tr (Kp.tr Kp.rf (Kp.mo (fr_X7_addBytea s 42 r4 e5) (by decide) (by decide))) (Kp.mo (fr_X4_writeCella r4 (r1 &&& (-r1)) r6 e7) (by decide) (by decide))) (fr_X4_writeWordsa_137 r r6 x2 x3 h)
set_option maxHeartbeats 4000000 in
theorem fr_X4_writeWordsa_68 (r : gS) : ∀ (s : gS) (x2 : Int32) (x3 : Int32) , f_X4_writeWordsa_68 s x2 x3 = some r → Kp [17] [4] s r := by
  intro s x2 x3 h
  rw [f_X4_writeWordsa_68] at h
  rcases (Classical.em (x3 = 1)).symm with c1 | c1
  · replace h := g_neg c1 h
    exact Kp.tr Kp.rf (fr_X4_writeWordsa_105 r s x2 x3 h)
  · replace h := g_pos c1 h
    obtain ⟨r2, e3, h⟩ := g_bind h
    obtain ⟨r4, e5, h⟩ := g_bind h
    obtain ⟨r6, e7, h⟩ := g_bind h
    obtain ⟨r8, e9, h⟩ := g_bind h
    exact Kp.tr (Kp.tr (Kp.tr Kp.rf (Kp.mo (fr_X4_writeSignsa s 33 r2 r4 e5) (by decide) (by decide))) (Kp.mo (fr_X4_writeSignsa r4 63 r6 r8 e9) (by decide) (by decide))) (fr_X4_writeWordsa_105 r r8 x2 x3 h)
set_option maxHeartbeats 4000000 in
theorem fr0_X4_writeWordsa (r : gS) : ∀ (s : gS) (x2 : Int32) (x3 : Int32) , f_X4_writeWordsa s x2 x3 = some r → Kp [17] [4] s r := by
  intro s x2 x3 h
  rw [f_X4_writeWordsa] at h
  obtain ⟨r1, e2, h⟩ := g_bind h
  obtain ⟨r3, e4, h⟩ := g_bind h
  obtain ⟨r5, e6, h⟩ := g_bind h
  obtain ⟨r7, e8, h⟩ := g_bind h
  obtain ⟨r9, e10, h⟩ := g_bind h
  obtain ⟨r11, e12, h⟩ := g_bind h
  obtain ⟨r13, e14, h⟩ := g_bind h
  rcases Classical.em (r13 ≤ 0) with c15 | c15
  · replace h := g_pos c15 h
    exact Kp.tr (Kp.tr (Kp.tr (Kp.tr (Kp.tr Kp.rf (Kp.mo (fr_X7_addNumbera s x2 r1 e2) (by decide) (by decide))) (Kp.mo (fr_X7_addBytea r1 46 r3 e4) (by decide) (by decide))) (Kp.mo (fr_X4_writeCella r3 r5 r7 e8) (by decide) (by decide))) (Kp.mo (fr_X4_writeSignsa r7 35 r9 r11 e12) (by decide) (by decide))) (fr_X4_writeWordsa_68 r r11 x2 x3 h)
  · replace h := g_neg c15 h
    obtain ⟨r16, e17, h⟩ := g_bind h
    obtain ⟨r18, e19, h⟩ := g_bind h
    exact Kp.tr (Kp.tr (Kp.tr (Kp.tr (Kp.tr (Kp.tr (Kp.tr Kp.rf (Kp.mo (fr_X7_addNumbera s x2 r1 e2) (by decide) (by decide))) (Kp.mo (fr_X7_addBytea r1 46 r3 e4) (by decide) (by decide))) (Kp.mo (fr_X4_writeCella r3 r5 r7 e8) (by decide) (by decide))) (Kp.mo (fr_X4_writeSignsa r7 35 r9 r11 e12) (by decide) (by decide))) (Kp.mo (fr_X7_addBytea r11 43 r16 e17) (by decide) (by decide))) (Kp.mo (fr_X7_addNumbera r16 r13 r18 e19) (by decide) (by decide))) (fr_X4_writeWordsa_68 r r18 x2 x3 h)
theorem fr_X4_writeWordsa (s : gS) (x2 : Int32) (x3 : Int32) (r : gS) (h : f_X4_writeWordsa s x2 x3 = some r) : Kp [17] [4] s r := fr0_X4_writeWordsa r s x2 x3 h
set_option maxHeartbeats 4000000 in
theorem fr0_X4_lengthOfAllWords (r : Int32 × gS) : ∀ (s : gS) (x1 : Int32) , f_X4_lengthOfAllWords s x1 = some r → Kp [17] [4] s r.2 := by
  intro s x1 h
  rw [f_X4_lengthOfAllWords] at h
  obtain ⟨r1, e2, h⟩ := g_bind h
  obtain ⟨r3, e4, h⟩ := g_bind h
  rw [← Option.some.inj h]
  exact (Kp.tr (Kp.tr Kp.rf (Kp.mo (fr_X7_cleara s r1 e2) (by decide) (by decide))) (Kp.mo (fr_X4_writeWordsa r1 x1 1 r3 e4) (by decide) (by decide)))
theorem fr_X4_lengthOfAllWords (s : gS) (x1 : Int32) (r : Int32 × gS) (h : f_X4_lengthOfAllWords s x1 = some r) : Kp [17] [4] s r.2 := fr0_X4_lengthOfAllWords r s x1 h
set_option maxHeartbeats 4000000 in
theorem fr_X8_chosen_70 (K29 : gS → Int32 → Int32 → Option (Int32 × gS)) (r : Int32 × gS) (hK29 : ∀ (s : gS) (x1 : Int32) (x2 : Int32) , K29 s x1 x2 = some r → Kp [10, 11, 17] [2, 3, 4, 5, 6, 7, 8, 9, 10] s r.2) : ∀ (s : gS) (x1 : Int32) (x2 : Int32) , f_X8_chosen_70 K29 s x1 x2 = some r → Kp [10, 11, 17] [2, 3, 4, 5, 6, 7, 8, 9, 10] s r.2 := by
  intro s x1 x2 h
  rw [f_X8_chosen_70] at h
  exact Kp.tr Kp.rf (hK29 s x1 (x2 + 1) h)
set_option maxHeartbeats 4000000 in
theorem fr_X8_chosen_29 (r : Int32 × gS) : ∀ (φ : Nat) (s : gS) (x1 : Int32) (x2 : Int32) , f_X8_chosen_29 φ s x1 x2 = some r → Kp [10, 11, 17] [2, 3, 4, 5, 6, 7, 8, 9, 10] s r.2 := by
  intro φ
  induction φ with
  | zero =>
    intro s x1 x2 h
    exact absurd h (by intro h0; cases h0)
  | succ φ ih =>
    intro s x1 x2 h
    rw [f_X8_chosen_29] at h
    rcases Classical.em ((s.1 7) < x2) with c1 | c1
    · replace h := g_pos c1 h
      obtain ⟨r2, e3, h⟩ := g_bind h
      rw [← Option.some.inj h]
      exact (Kp.tr Kp.rf (Kp.mo (fr_X1_choose s x1 r2 e3) (by decide) (by decide)))
    · replace h := g_neg c1 h
      obtain ⟨r4, e5, h⟩ := g_bind h
      rcases Classical.em (r4 ≤ 0) with c6 | c6
      · replace h := g_pos c6 h
        exact Kp.tr Kp.rf (fr_X8_chosen_70 (f_X8_chosen_29 φ) r (fun s x1 x2 h => ih s x1 x2 h) s x1 x2 h)
      · replace h := g_neg c6 h
        obtain ⟨r7, e8, h⟩ := g_bind h
        obtain ⟨r9, e10, h⟩ := g_bind h
        exact Kp.tr (Kp.tr (Kp.tr Kp.rf (Kp.mo (fr_X4_lengthOfAllWords s x2 r7 e8) (by decide) (by decide))) (Kp.mo (fr_X1_offer r7.2 x2 r4 r7.1 r9 e10) (by decide) (by decide))) (fr_X8_chosen_70 (f_X8_chosen_29 φ) r (fun s x1 x2 h => ih s x1 x2 h) r9 x1 x2 h)
set_option maxHeartbeats 4000000 in
theorem fr0_X8_chosen (r : Int32 × gS) : ∀ (s : gS) (x1 : Int32) , f_X8_chosen s x1 = some r → Kp [10, 11, 17] [2, 3, 4, 5, 6, 7, 8, 9, 10] s r.2 := by
  intro s x1 h
  rw [f_X8_chosen] at h
  rcases Classical.em (x1 < 0) with c1 | c1
  · replace h := g_pos c1 h
    rw [← Option.some.inj h]
    exact Kp.rf
  · replace h := g_neg c1 h
    rcases Classical.em (x1 ≤ 200) with c2 | c2
    · replace h := g_pos c2 h
      obtain ⟨r3, e4, h⟩ := g_bind h
      obtain ⟨r5, e6, h⟩ := g_bind h
      exact Kp.tr (Kp.tr (Kp.tr Kp.rf (Kp.mo (fr_X2_examine s r3 e4) (by decide) (by decide))) (Kp.mo (fr_X1_clear r3 r5 e6) (by decide) (by decide))) (fr_X8_chosen_29 r gφ r5 x1 1 h)
    · replace h := g_neg c2 h
      rw [← Option.some.inj h]
      exact Kp.rf
theorem fr_X8_chosen (s : gS) (x1 : Int32) (r : Int32 × gS) (h : f_X8_chosen s x1 = some r) : Kp [10, 11, 17] [2, 3, 4, 5, 6, 7, 8, 9, 10] s r.2 := fr0_X8_chosen r s x1 h
set_option maxHeartbeats 4000000 in
theorem fr0_X8_worth (r : Int32 × gS) : ∀ (s : gS) (x1 : Int32) , f_X8_worth s x1 = some r → Kp [10] [2, 3] s r.2 := by
  intro s x1 h
  rw [f_X8_worth] at h
  obtain ⟨r1, e2, h⟩ := g_bind h
  rcases (Classical.em (r1 = 0)).symm with c3 | c3
  · replace h := g_neg c3 h
    obtain ⟨r4, e5, h⟩ := g_bind h
    obtain ⟨r6, e7, h⟩ := g_bind h
    rw [← Option.some.inj h]
    exact (Kp.tr Kp.rf (Kp.mo (fr_X2_examine s r4 e5) (by decide) (by decide)))
  · replace h := g_pos c3 h
    rw [← Option.some.inj h]
    exact Kp.rf
theorem fr_X8_worth (s : gS) (x1 : Int32) (r : Int32 × gS) (h : f_X8_worth s x1 = some r) : Kp [10] [2, 3] s r.2 := fr0_X8_worth r s x1 h
set_option maxHeartbeats 4000000 in
theorem fr0_X8_feed (r : Int32 × gS) : ∀ (s : gS) (x1 : Int32) (x2 : Int32) (x3 : Int32) (x4 : Int32) (x5 : Int32) , f_X8_feed s x1 x2 x3 x4 x5 = some r → Kp [12] [11] s r.2 := by
  intro s x1 x2 x3 x4 x5 h
  rw [f_X8_feed] at h
  obtain ⟨r1, e2, h⟩ := g_bind h
  rcases (Classical.em (r1 = 0)).symm with c3 | c3
  · replace h := g_neg c3 h
    obtain ⟨r4, e5, h⟩ := g_bind h
    obtain ⟨r6, e7, h⟩ := g_bind h
    obtain ⟨r8, e9, h⟩ := g_bind h
    obtain ⟨r10, e11, h⟩ := g_bind h
    obtain ⟨r12, e13, h⟩ := g_bind h
    rw [← Option.some.inj h]
    exact (Kp.tr (Kp.tr (Kp.tr (Kp.tr (Kp.tr Kp.rf (Kp.mo (fr_X6_addFour s x1 r4 e5) (by decide) (by decide))) (Kp.mo (fr_X6_addFour r4 x2 r6 e7) (by decide) (by decide))) (Kp.mo (fr_X6_addFour r6 x3 r8 e9) (by decide) (by decide))) (Kp.mo (fr_X6_addFour r8 x4 r10 e11) (by decide) (by decide))) (Kp.mo (fr_X6_addFour r10 x5 r12 e13) (by decide) (by decide)))
  · replace h := g_pos c3 h
    rw [← Option.some.inj h]
    exact Kp.rf
theorem fr_X8_feed (s : gS) (x1 : Int32) (x2 : Int32) (x3 : Int32) (x4 : Int32) (x5 : Int32) (r : Int32 × gS) (h : f_X8_feed s x1 x2 x3 x4 x5 = some r) : Kp [12] [11] s r.2 := fr0_X8_feed r s x1 x2 x3 x4 x5 h
set_option maxHeartbeats 4000000 in
theorem fr_X8_read_113 (r : Int32 × gS) : ∀ (s : gS) (x2 : Int32) (x3 : Int32) , f_X8_read_113 s x2 x3 = some r → Kp [7, 8, 10, 12, 13, 14, 15, 16] [0, 2] s r.2 := by
  intro s x2 x3 h
  rw [f_X8_read_113] at h
  obtain ⟨r1, e2, h⟩ := g_bind h
  rw [← Option.some.inj h]
  exact (Kp.tr Kp.rf (Kp.mo (fr_X6_finish s x3 r1 e2) (by decide) (by decide)))
set_option maxHeartbeats 4000000 in
theorem fr_X8_read_30 (r : Int32 × gS) : ∀ (φ : Nat) (s : gS) (x1 : Int32) (x2 : Int32) (x3 : Int32) (x4 : Int32) , f_X8_read_30 φ s x1 x2 x3 x4 = some r → Kp [7, 8, 10, 12, 13, 14, 15, 16] [0, 2] s r.2 := by
  intro φ
  induction φ with
  | zero =>
    intro s x1 x2 x3 x4 h
    exact absurd h (by intro h0; cases h0)
  | succ φ ih =>
    intro s x1 x2 x3 x4 h
    rw [f_X8_read_30] at h
    rcases Classical.em (x1 ≤ x4) with c1 | c1
    · replace h := g_pos c1 h
      exact Kp.tr Kp.rf (fr_X8_read_113 r s x2 x3 h)
    · replace h := g_neg c1 h
      rcases Classical.em (x1 ≤ x3) with c2 | c2
      · replace h := g_pos c2 h
        exact Kp.tr Kp.rf (fr_X8_read_113 r s x2 x3 h)
      · replace h := g_neg c2 h
        obtain ⟨r3, e4, h⟩ := g_bind h
        rcases Classical.em (r3.1 = 0) with c5 | c5
        · replace h := g_pos c5 h
          exact Kp.tr (Kp.tr Kp.rf (Kp.mo (fr_X6_readWords s x3 x1 ((s.1 7) + 1) r3 e4) (by decide) (by decide))) (fr_X8_read_113 r r3.2 x2 x3 h)
        · replace h := g_neg c5 h
          obtain ⟨r6, e7, h⟩ := g_bind h
          obtain ⟨r8, e9, h⟩ := g_bind h
          rcases (Classical.em (r8.1 = 0)).symm with c10 | c10
          · replace h := g_neg c10 h
            exact Kp.tr (Kp.tr (Kp.tr Kp.rf (Kp.mo (fr_X6_readWords s x3 x1 ((s.1 7) + 1) r3 e4) (by decide) (by decide))) (Kp.mo (fr_X8_setStone r3.2 r6 r8 e9) (by decide) (by decide))) (ih r8.2 x1 x2 (if x1 < ((r8.2.1 16) + 1) then x1 else ((r8.2.1 16) + 1)) (x4 + 1) h)
          · replace h := g_pos c10 h
            exact Kp.tr (Kp.tr (Kp.tr Kp.rf (Kp.mo (fr_X6_readWords s x3 x1 ((s.1 7) + 1) r3 e4) (by decide) (by decide))) (Kp.mo (fr_X8_setStone r3.2 r6 r8 e9) (by decide) (by decide))) (fr_X8_read_113 r r8.2 x2 x3 h)
set_option maxHeartbeats 4000000 in
theorem fr0_X8_read (r : Int32 × gS) : ∀ (s : gS) (x1 : Int32) , f_X8_read s x1 = some r → Kp [7, 8, 10, 12, 13, 14, 15, 16] [0, 2] s r.2 := by
  intro s x1 h
  rw [f_X8_read] at h
  rcases Classical.em (x1 < 0) with c1 | c1
  · replace h := g_pos c1 h
    rw [← Option.some.inj h]
    exact Kp.rf
  · replace h := g_neg c1 h
    rcases Classical.em (x1 ≤ (s.1 12)) with c2 | c2
    · replace h := g_pos c2 h
      exact Kp.tr Kp.rf (fr_X8_read_30 r gφ s x1 (s.1 7) 0 0 h)
    · replace h := g_neg c2 h
      rw [← Option.some.inj h]
      exact Kp.rf
theorem fr_X8_read (s : gS) (x1 : Int32) (r : Int32 × gS) (h : f_X8_read s x1 = some r) : Kp [7, 8, 10, 12, 13, 14, 15, 16] [0, 2] s r.2 := fr0_X8_read r s x1 h
set_option maxHeartbeats 4000000 in
theorem fr_X9_forgets_2 (r : gS) : ∀ (φ : Nat) (s : gS) (x1 : Int32) , f_X9_forgets_2 φ s x1 = some r → Kp [] [27] s r := by
  intro φ
  induction φ with
  | zero =>
    intro s x1 h
    exact absurd h (by intro h0; cases h0)
  | succ φ ih =>
    intro s x1 h
    rw [f_X9_forgets_2] at h
    rcases Classical.em (17 ≤ x1) with c1 | c1
    · replace h := g_pos c1 h
      rw [← Option.some.inj h]
      exact Kp.rf
    · replace h := g_neg c1 h
      obtain ⟨g2, h⟩ := g_guard h
      exact Kp.tr (Kp.sa (by decide) Kp.rf) (ih (sa s 27 x1.toNatClampNeg (0 &&& 1)) (x1 + 1) h)
set_option maxHeartbeats 4000000 in
theorem fr0_X9_forgets (r : gS) : ∀ (s : gS) , f_X9_forgets s = some r → Kp [] [27] s r := by
  intro s h
  rw [f_X9_forgets] at h
  exact Kp.tr Kp.rf (fr_X9_forgets_2 r gφ s 0 h)
theorem fr_X9_forgets (s : gS) (r : gS) (h : f_X9_forgets s = some r) : Kp [] [27] s r := fr0_X9_forgets r s h
set_option maxHeartbeats 4000000 in
theorem fr_X9_game_39 (r : Int32 × gS) : ∀ (s : gS) (x1 : Int32) (x2 : Int32) (x3 : Int32) (x4 : Int32) (x5 : Int32) , f_X9_game_39 s x1 x2 x3 x4 x5 = some r → Kp [20, 21, 22, 23, 25, 26] [27] s r.2 := by
  intro s x1 x2 x3 x4 x5 h
  rw [f_X9_game_39] at h
  obtain ⟨g1, h⟩ := g_guard h
  obtain ⟨g2, h⟩ := g_guard h
  obtain ⟨r3, e4, h⟩ := g_bind h
  rw [← Option.some.inj h]
  exact (Kp.tr (Kp.ss (by decide) (Kp.ss (by decide) (Kp.ss (by decide) (Kp.ss (by decide) (Kp.ss (by decide) (Kp.ss (by decide) Kp.rf)))))) (Kp.mo (fr_X9_forgets (ss (ss (ss (ss (ss (ss s 20 x1) 21 x2) 22 x3) 25 x4) 26 x5) 23 0) r3 e4) (by decide) (by decide)))
set_option maxHeartbeats 4000000 in
theorem fr0_X9_game (r : Int32 × gS) : ∀ (s : gS) (x1 : Int32) (x2 : Int32) (x3 : Int32) (x4 : Int32) (x5 : Int32) , f_X9_game s x1 x2 x3 x4 x5 = some r → Kp [20, 21, 22, 23, 25, 26] [27] s r.2 := by
  intro s x1 x2 x3 x4 x5 h
  rw [f_X9_game] at h
  obtain ⟨r1, e2, h⟩ := g_bind h
  rcases Classical.em (r1 = 0) with c3 | c3
  · replace h := g_pos c3 h
    rw [← Option.some.inj h]
    exact Kp.rf
  · replace h := g_neg c3 h
    obtain ⟨r4, e5, h⟩ := g_bind h
    rcases Classical.em (r4 = 0) with c6 | c6
    · replace h := g_pos c6 h
      rw [← Option.some.inj h]
      exact Kp.rf
    · replace h := g_neg c6 h
      obtain ⟨r7, e8, h⟩ := g_bind h
      rcases Classical.em (r7 = 0) with c9 | c9
      · replace h := g_pos c9 h
        rw [← Option.some.inj h]
        exact Kp.rf
      · replace h := g_neg c9 h
        rcases Classical.em (x3 ≤ x1) with c10 | c10
        · replace h := g_pos c10 h
          exact Kp.tr Kp.rf (fr_X9_game_39 r s x1 x2 x3 x4 x5 h)
        · replace h := g_neg c10 h
          rcases Classical.em (x3 ≤ x2) with c11 | c11
          · replace h := g_pos c11 h
            exact Kp.tr Kp.rf (fr_X9_game_39 r s x1 x2 x3 x4 x5 h)
          · replace h := g_neg c11 h
            rw [← Option.some.inj h]
            exact Kp.rf
theorem fr_X9_game (s : gS) (x1 : Int32) (x2 : Int32) (x3 : Int32) (x4 : Int32) (x5 : Int32) (r : Int32 × gS) (h : f_X9_game s x1 x2 x3 x4 x5 = some r) : Kp [20, 21, 22, 23, 25, 26] [27] s r.2 := fr0_X9_game r s x1 x2 x3 x4 x5 h
set_option maxHeartbeats 4000000 in
theorem fr_X9_starts_2 (r : gS) : ∀ (φ : Nat) (s : gS) (x1 : Int32) , f_X9_starts_2 φ s x1 = some r → Kp [27, 28] [22] s r := by
  intro φ
  induction φ with
  | zero =>
    intro s x1 h
    exact absurd h (by intro h0; cases h0)
  | succ φ ih =>
    intro s x1 h
    rw [f_X9_starts_2] at h
    rcases Classical.em (16 ≤ x1) with c1 | c1
    · replace h := g_pos c1 h
      rw [← Option.some.inj h]
      exact (Kp.ss (by decide) (Kp.ss (by decide) Kp.rf))
    · replace h := g_neg c1 h
      obtain ⟨g2, h⟩ := g_guard h
      exact Kp.tr (Kp.sa (by decide) Kp.rf) (ih (sa s 22 x1.toNatClampNeg 2) (x1 + 1) h)
set_option maxHeartbeats 4000000 in
theorem fr0_X9_starts (r : gS) : ∀ (s : gS) , f_X9_starts s = some r → Kp [27, 28] [22] s r := by
  intro s h
  rw [f_X9_starts] at h
  exact Kp.tr Kp.rf (fr_X9_starts_2 r gφ s 0 h)
theorem fr_X9_starts (s : gS) (r : gS) (h : f_X9_starts s = some r) : Kp [27, 28] [22] s r := fr0_X9_starts r s h
set_option maxHeartbeats 4000000 in
theorem fr_X9_sets_48 (r : gS) : ∀ (s : gS) (t1 : Int32) , f_X9_sets_48 s t1 = some r → Kp [27, 28] [22] s r := by
  intro s t1 h
  rw [f_X9_sets_48] at h
  rw [← Option.some.inj h]
  exact (Kp.ss (by decide) Kp.rf)
set_option maxHeartbeats 4000000 in
theorem fr0_X9_sets (r : gS) : ∀ (s : gS) (x1 : Int32) , f_X9_sets s x1 = some r → Kp [27, 28] [22] s r := by
  intro s x1 h
  rw [f_X9_sets] at h
  obtain ⟨g1, h⟩ := g_guard h
  obtain ⟨r2, e3, h⟩ := g_bind h
  rcases Classical.em (r2 = 0) with c4 | c4
  · replace h := g_pos c4 h
    rcases (Classical.em (((s.1 27) + 1) = ((s.1 20) * (s.1 21)))).symm with c5 | c5
    · replace h := g_neg c5 h
      rw [← Option.some.inj h]
      exact (Kp.ss (by decide) (Kp.sa (by decide) Kp.rf))
    · replace h := g_pos c5 h
      rw [← Option.some.inj h]
      exact (Kp.ss (by decide) (Kp.ss (by decide) (Kp.sa (by decide) Kp.rf)))
  · replace h := g_neg c4 h
    rcases Classical.em ((s.1 26) = 0) with c6 | c6
    · replace h := g_pos c6 h
      exact Kp.tr (Kp.ss (by decide) (Kp.sa (by decide) Kp.rf)) (fr_X9_sets_48 r (ss (sa s 22 x1.toNatClampNeg ((s.1 27) - (s.1 27) / 2 * 2)) 27 ((s.1 27) + 1)) ((s.1 27) - (s.1 27) / 2 * 2) h)
    · replace h := g_neg c6 h
      exact Kp.tr (Kp.ss (by decide) (Kp.sa (by decide) Kp.rf)) (fr_X9_sets_48 r (ss (sa s 22 x1.toNatClampNeg ((s.1 27) - (s.1 27) / 2 * 2)) 27 ((s.1 27) + 1)) (1 - ((s.1 27) - (s.1 27) / 2 * 2)) h)
theorem fr_X9_sets (s : gS) (x1 : Int32) (r : gS) (h : f_X9_sets s x1 = some r) : Kp [27, 28] [22] s r := fr0_X9_sets r s x1 h
set_option maxHeartbeats 4000000 in
theorem fr_X9_setsUp_6 (r : gS) : ∀ (φ : Nat) (s : gS) (x1 : Int32) (x2 : Int32) , f_X9_setsUp_6 φ s x1 x2 = some r → Kp [27, 28] [22] s r := by
  intro φ
  induction φ with
  | zero =>
    intro s x1 x2 h
    exact absurd h (by intro h0; cases h0)
  | succ φ ih =>
    intro s x1 x2 h
    rw [f_X9_setsUp_6] at h
    rcases Classical.em (x1 ≤ x2) with c1 | c1
    · replace h := g_pos c1 h
      rw [← Option.some.inj h]
      exact Kp.rf
    · replace h := g_neg c1 h
      obtain ⟨g2, h⟩ := g_guard h
      obtain ⟨r3, e4, h⟩ := g_bind h
      exact Kp.tr (Kp.tr Kp.rf (Kp.mo (fr_X9_sets s (s.2 20 x2.toNatClampNeg) r3 e4) (by decide) (by decide))) (ih r3 x1 (x2 + 1) h)
set_option maxHeartbeats 4000000 in
theorem fr0_X9_setsUp (r : gS) : ∀ (s : gS) (x1 : Int32) , f_X9_setsUp s x1 = some r → Kp [27, 28] [22] s r := by
  intro s x1 h
  rw [f_X9_setsUp] at h
  obtain ⟨r1, e2, h⟩ := g_bind h
  exact Kp.tr (Kp.tr Kp.rf (Kp.mo (fr_X9_starts s r1 e2) (by decide) (by decide))) (fr_X9_setsUp_6 r gφ r1 x1 0 h)
theorem fr_X9_setsUp (s : gS) (x1 : Int32) (r : gS) (h : f_X9_setsUp s x1 = some r) : Kp [27, 28] [22] s r := fr0_X9_setsUp r s x1 h
set_option maxHeartbeats 4000000 in
theorem fr0_X9_play (r : Int32 × gS) : ∀ (s : gS) (x1 : Int32) , f_X9_play s x1 = some r → Kp [23, 27, 28] [20, 22, 27] s r.2 := by
  intro s x1 h
  rw [f_X9_play] at h
  obtain ⟨r1, e2, h⟩ := g_bind h
  rcases (Classical.em ((r1.1 28) = 3)).symm with c3 | c3
  · replace h := g_neg c3 h
    rw [← Option.some.inj h]
    exact (Kp.tr Kp.rf (Kp.mo (fr_X9_setsUp s (s.1 23) r1 e2) (by decide) (by decide)))
  · replace h := g_pos c3 h
    obtain ⟨r4, e5, h⟩ := g_bind h
    rcases (Classical.em (r4 = 0)).symm with c6 | c6
    · replace h := g_neg c6 h
      obtain ⟨g7, h⟩ := g_guard h
      obtain ⟨r8, e9, h⟩ := g_bind h
      rw [← Option.some.inj h]
      exact (Kp.tr (Kp.ss (by decide) (Kp.sa (by decide) (Kp.tr Kp.rf (Kp.mo (fr_X9_setsUp s (s.1 23) r1 e2) (by decide) (by decide))))) (Kp.mo (fr_X9_forgets (ss (sa r1 20 ((r1.1 23).toNatClampNeg) x1) 23 ((r1.1 23) + 1)) r8 e9) (by decide) (by decide)))
    · replace h := g_pos c6 h
      rw [← Option.some.inj h]
      exact (Kp.tr Kp.rf (Kp.mo (fr_X9_setsUp s (s.1 23) r1 e2) (by decide) (by decide)))
theorem fr_X9_play (s : gS) (x1 : Int32) (r : Int32 × gS) (h : f_X9_play s x1 = some r) : Kp [23, 27, 28] [20, 22, 27] s r.2 := fr0_X9_play r s x1 h
set_option maxHeartbeats 4000000 in
theorem fr0_X9_back (r : Int32 × gS) : ∀ (s : gS) , f_X9_back s = some r → Kp [23] [27] s r.2 := by
  intro s h
  rw [f_X9_back] at h
  rcases (Classical.em ((s.1 23) = 0)).symm with c1 | c1
  · replace h := g_neg c1 h
    obtain ⟨r2, e3, h⟩ := g_bind h
    rw [← Option.some.inj h]
    exact (Kp.tr (Kp.ss (by decide) Kp.rf) (Kp.mo (fr_X9_forgets (ss s 23 ((s.1 23) - 1)) r2 e3) (by decide) (by decide)))
  · replace h := g_pos c1 h
    rw [← Option.some.inj h]
    exact Kp.rf
theorem fr_X9_back (s : gS) (r : Int32 × gS) (h : f_X9_back s = some r) : Kp [23] [27] s r.2 := fr0_X9_back r s h
set_option maxHeartbeats 4000000 in
theorem fr0_X9_depth (r : Int32 × gS) : ∀ (s : gS) (x1 : Int32) , f_X9_depth s x1 = some r → Kp [24] [27] s r.2 := by
  intro s x1 h
  rw [f_X9_depth] at h
  obtain ⟨r1, e2, h⟩ := g_bind h
  rcases (Classical.em (r1 = 0)).symm with c3 | c3
  · replace h := g_neg c3 h
    obtain ⟨r4, e5, h⟩ := g_bind h
    rw [← Option.some.inj h]
    exact (Kp.tr (Kp.ss (by decide) Kp.rf) (Kp.mo (fr_X9_forgets (ss s 24 x1) r4 e5) (by decide) (by decide)))
  · replace h := g_pos c3 h
    rw [← Option.some.inj h]
    exact Kp.rf
theorem fr_X9_depth (s : gS) (x1 : Int32) (r : Int32 × gS) (h : f_X9_depth s x1 = some r) : Kp [24] [27] s r.2 := fr0_X9_depth r s x1 h
set_option maxHeartbeats 4000000 in
theorem fr0_X9_weight (r : Int32 × gS) : ∀ (s : gS) (x1 : Int32) (x2 : Int32) , f_X9_weight s x1 x2 = some r → Kp [] [21] s r.2 := by
  intro s x1 x2 h
  rw [f_X9_weight] at h
  obtain ⟨r1, e2, h⟩ := g_bind h
  rcases Classical.em (r1 = 0) with c3 | c3
  · replace h := g_pos c3 h
    rw [← Option.some.inj h]
    exact Kp.rf
  · replace h := g_neg c3 h
    obtain ⟨r4, e5, h⟩ := g_bind h
    rcases (Classical.em (r4 = 0)).symm with c6 | c6
    · replace h := g_neg c6 h
      obtain ⟨g7, h⟩ := g_guard h
      rw [← Option.some.inj h]
      exact (Kp.sa (by decide) Kp.rf)
    · replace h := g_pos c6 h
      rw [← Option.some.inj h]
      exact Kp.rf
theorem fr_X9_weight (s : gS) (x1 : Int32) (x2 : Int32) (r : Int32 × gS) (h : f_X9_weight s x1 x2 = some r) : Kp [] [21] s r.2 := fr0_X9_weight r s x1 x2 h
set_option maxHeartbeats 4000000 in
theorem fr_X9_searched_114 (K75 : gS → Int32 → Int32 → Int32 → Int32 → Option (Int32 × gS)) (r : Int32 × gS) (hK75 : ∀ (s : gS) (x1 : Int32) (x2 : Int32) (x3 : Int32) (x4 : Int32) , K75 s x1 x2 x3 x4 = some r → Kp [] [22, 23, 24, 25] s r.2) : ∀ (s : gS) (x1 : Int32) (x2 : Int32) (x3 : Int32) (x4 : Int32) , f_X9_searched_114 K75 s x1 x2 x3 x4 = some r → Kp [] [22, 23, 24, 25] s r.2 := by
  intro s x1 x2 x3 x4 h
  rw [f_X9_searched_114] at h
  obtain ⟨g1, h⟩ := g_guard h
  rcases Classical.em (0 ≤ (x2 - 1)) with c2 | c2
  · replace h := g_pos c2 h
    obtain ⟨g3, h⟩ := g_guard h
    obtain ⟨g4, h⟩ := g_guard h
    obtain ⟨g5, h⟩ := g_guard h
    rcases Classical.em ((-(s.2 23 x2.toNatClampNeg)) ≤ (s.2 23 (x2 - 1).toNatClampNeg)) with c6 | c6
    · replace h := g_pos c6 h
      exact Kp.tr (Kp.sa (by decide) Kp.rf) (hK75 (sa s 22 ((s.2 25 (x2 - 1).toNatClampNeg).toNatClampNeg) 2) x1 (x2 - 1) x3 x4 h)
    · replace h := g_neg c6 h
      obtain ⟨g7, h⟩ := g_guard h
      exact Kp.tr (Kp.sa (by decide) (Kp.sa (by decide) Kp.rf)) (hK75 (sa (sa s 22 ((s.2 25 (x2 - 1).toNatClampNeg).toNatClampNeg) 2) 23 ((x2 - 1).toNatClampNeg) (-(s.2 23 x2.toNatClampNeg))) x1 (x2 - 1) x3 x4 h)
  · replace h := g_neg c2 h
    rw [← Option.some.inj h]
    exact Kp.rf
set_option maxHeartbeats 4000000 in
theorem fr_X9_searched_281 (K75 : gS → Int32 → Int32 → Int32 → Int32 → Option (Int32 × gS)) (r : Int32 × gS) (hK75 : ∀ (s : gS) (x1 : Int32) (x2 : Int32) (x3 : Int32) (x4 : Int32) , K75 s x1 x2 x3 x4 = some r → Kp [] [22, 23, 24, 25] s r.2) : ∀ (s : gS) (x1 : Int32) (x2 : Int32) (x3 : Int32) (x4 : Int32) (x6 : Int32) (t0 : Int32) , f_X9_searched_281 K75 s x1 x2 x3 x4 x6 t0 = some r → Kp [] [22, 23, 24, 25] s r.2 := by
  intro s x1 x2 x3 x4 x6 t0 h
  rw [f_X9_searched_281] at h
  obtain ⟨g1, h⟩ := g_guard h
  obtain ⟨g2, h⟩ := g_guard h
  rcases Classical.em (t0 ≤ (s.2 23 x2.toNatClampNeg)) with c3 | c3
  · replace h := g_pos c3 h
    exact Kp.tr (Kp.sa (by decide) Kp.rf) (hK75 (sa s 22 x6.toNatClampNeg 2) x1 x2 x3 x4 h)
  · replace h := g_neg c3 h
    obtain ⟨g4, h⟩ := g_guard h
    exact Kp.tr (Kp.sa (by decide) (Kp.sa (by decide) Kp.rf)) (hK75 (sa (sa s 22 x6.toNatClampNeg 2) 23 x2.toNatClampNeg t0) x1 x2 x3 x4 h)
set_option maxHeartbeats 4000000 in
theorem fr_X9_searched_253 (K75 : gS → Int32 → Int32 → Int32 → Int32 → Option (Int32 × gS)) (r : Int32 × gS) (hK75 : ∀ (s : gS) (x1 : Int32) (x2 : Int32) (x3 : Int32) (x4 : Int32) , K75 s x1 x2 x3 x4 = some r → Kp [] [22, 23, 24, 25] s r.2) : ∀ (s : gS) (x1 : Int32) (x2 : Int32) (x3 : Int32) (x4 : Int32) (x6 : Int32) (x7 : Int32) (t0 : Int32) , f_X9_searched_253 K75 s x1 x2 x3 x4 x6 x7 t0 = some r → Kp [] [22, 23, 24, 25] s r.2 := by
  intro s x1 x2 x3 x4 x6 x7 t0 h
  rw [f_X9_searched_253] at h
  rcases Classical.em (t0 = 0) with c1 | c1
  · replace h := g_pos c1 h
    obtain ⟨g2, h⟩ := g_guard h
    obtain ⟨g3, h⟩ := g_guard h
    obtain ⟨g4, h⟩ := g_guard h
    exact Kp.tr (Kp.sa (by decide) (Kp.sa (by decide) (Kp.sa (by decide) Kp.rf))) (hK75 (sa (sa (sa s 25 x2.toNatClampNeg x6) 23 ((x2 + 1).toNatClampNeg) (-2 : Int32)) 24 ((x2 + 1).toNatClampNeg) 0) x1 (x2 + 1) x3 x4 h)
  · replace h := g_neg c1 h
    rcases (Classical.em (x7 = 0)).symm with c5 | c5
    · replace h := g_neg c5 h
      rcases Classical.em ((s.1 26) = 0) with c6 | c6
      · replace h := g_pos c6 h
        exact Kp.tr Kp.rf (fr_X9_searched_281 K75 r hK75 s x1 x2 x3 x4 x6 1 h)
      · replace h := g_neg c6 h
        exact Kp.tr Kp.rf (fr_X9_searched_281 K75 r hK75 s x1 x2 x3 x4 x6 (-1 : Int32) h)
    · replace h := g_pos c5 h
      exact Kp.tr Kp.rf (fr_X9_searched_281 K75 r hK75 s x1 x2 x3 x4 x6 0 h)
set_option maxHeartbeats 4000000 in
theorem fr_X9_searched_248 (K75 : gS → Int32 → Int32 → Int32 → Int32 → Option (Int32 × gS)) (r : Int32 × gS) (hK75 : ∀ (s : gS) (x1 : Int32) (x2 : Int32) (x3 : Int32) (x4 : Int32) , K75 s x1 x2 x3 x4 = some r → Kp [] [22, 23, 24, 25] s r.2) : ∀ (s : gS) (x1 : Int32) (x2 : Int32) (x3 : Int32) (x4 : Int32) (x6 : Int32) (x7 : Int32) , f_X9_searched_248 K75 s x1 x2 x3 x4 x6 x7 = some r → Kp [] [22, 23, 24, 25] s r.2 := by
  intro s x1 x2 x3 x4 x6 x7 h
  rw [f_X9_searched_248] at h
  exact Kp.tr Kp.rf (fr_X9_searched_253 K75 r hK75 s x1 x2 x3 x4 x6 x7 1 h)
set_option maxHeartbeats 4000000 in
theorem fr_X9_searched_75 (r : Int32 × gS) : ∀ (φ : Nat) (s : gS) (x1 : Int32) (x2 : Int32) (x3 : Int32) (x4 : Int32) , f_X9_searched_75 φ s x1 x2 x3 x4 = some r → Kp [] [22, 23, 24, 25] s r.2 := by
  intro φ
  induction φ with
  | zero =>
    intro s x1 x2 x3 x4 h
    exact absurd h (by intro h0; cases h0)
  | succ φ ih =>
    intro s x1 x2 x3 x4 h
    rw [f_X9_searched_75] at h
    rcases Classical.em (x2 < 0) with c1 | c1
    · replace h := g_pos c1 h
      rw [← Option.some.inj h]
      exact Kp.rf
    · replace h := g_neg c1 h
      obtain ⟨g2, h⟩ := g_guard h
      rcases Classical.em ((s.2 24 x2.toNatClampNeg) = ((s.1 20) * (s.1 21))) with c3 | c3
      · replace h := g_pos c3 h
        exact Kp.tr Kp.rf (fr_X9_searched_114 (f_X9_searched_75 φ) r (fun s x1 x2 x3 x4 h => ih s x1 x2 x3 x4 h) s x1 x2 x3 x4 h)
      · replace h := g_neg c3 h
        obtain ⟨g4, h⟩ := g_guard h
        rcases (Classical.em ((s.2 23 x2.toNatClampNeg) = 1)).symm with c5 | c5
        · replace h := g_neg c5 h
          obtain ⟨g6, h⟩ := g_guard h
          obtain ⟨g7, h⟩ := g_guard h
          obtain ⟨r8, e9, h⟩ := g_bind h
          rcases (Classical.em (r8 = 0)).symm with c10 | c10
          · replace h := g_neg c10 h
            obtain ⟨g11, h⟩ := g_guard h
            obtain ⟨r12, e13, h⟩ := g_bind h
            rcases (Classical.em (r12 = 0)).symm with c14 | c14
            · replace h := g_neg c14 h
              exact Kp.tr (Kp.sa (by decide) (Kp.sa (by decide) Kp.rf)) (fr_X9_searched_248 (f_X9_searched_75 φ) r (fun s x1 x2 x3 x4 h => ih s x1 x2 x3 x4 h) (sa (sa s 24 x2.toNatClampNeg ((s.2 24 x2.toNatClampNeg) + 1)) 22 ((s.2 24 x2.toNatClampNeg).toNatClampNeg) ((x3 + x2) - (x3 + x2) / 2 * 2)) x1 x2 x3 x4 (s.2 24 x2.toNatClampNeg) r12 h)
            · replace h := g_pos c14 h
              rcases Classical.em (((x4 + x2) + 1) = ((s.1 20) * (s.1 21))) with c15 | c15
              · replace h := g_pos c15 h
                exact Kp.tr (Kp.sa (by decide) (Kp.sa (by decide) Kp.rf)) (fr_X9_searched_248 (f_X9_searched_75 φ) r (fun s x1 x2 x3 x4 h => ih s x1 x2 x3 x4 h) (sa (sa s 24 x2.toNatClampNeg ((s.2 24 x2.toNatClampNeg) + 1)) 22 ((s.2 24 x2.toNatClampNeg).toNatClampNeg) ((x3 + x2) - (x3 + x2) / 2 * 2)) x1 x2 x3 x4 (s.2 24 x2.toNatClampNeg) r12 h)
              · replace h := g_neg c15 h
                rcases (Classical.em ((x2 + 1) = x1)).symm with c16 | c16
                · replace h := g_neg c16 h
                  exact Kp.tr (Kp.sa (by decide) (Kp.sa (by decide) Kp.rf)) (fr_X9_searched_253 (f_X9_searched_75 φ) r (fun s x1 x2 x3 x4 h => ih s x1 x2 x3 x4 h) (sa (sa s 24 x2.toNatClampNeg ((s.2 24 x2.toNatClampNeg) + 1)) 22 ((s.2 24 x2.toNatClampNeg).toNatClampNeg) ((x3 + x2) - (x3 + x2) / 2 * 2)) x1 x2 x3 x4 (s.2 24 x2.toNatClampNeg) r12 0 h)
                · replace h := g_pos c16 h
                  exact Kp.tr (Kp.sa (by decide) (Kp.sa (by decide) Kp.rf)) (fr_X9_searched_248 (f_X9_searched_75 φ) r (fun s x1 x2 x3 x4 h => ih s x1 x2 x3 x4 h) (sa (sa s 24 x2.toNatClampNeg ((s.2 24 x2.toNatClampNeg) + 1)) 22 ((s.2 24 x2.toNatClampNeg).toNatClampNeg) ((x3 + x2) - (x3 + x2) / 2 * 2)) x1 x2 x3 x4 (s.2 24 x2.toNatClampNeg) r12 h)
          · replace h := g_pos c10 h
            exact Kp.tr (Kp.sa (by decide) Kp.rf) (ih (sa s 24 x2.toNatClampNeg ((s.2 24 x2.toNatClampNeg) + 1)) x1 x2 x3 x4 h)
        · replace h := g_pos c5 h
          exact Kp.tr Kp.rf (fr_X9_searched_114 (f_X9_searched_75 φ) r (fun s x1 x2 x3 x4 h => ih s x1 x2 x3 x4 h) s x1 x2 x3 x4 h)
set_option maxHeartbeats 4000000 in
theorem fr0_X9_searched (r : Int32 × gS) : ∀ (s : gS) (x1 : Int32) , f_X9_searched s x1 = some r → Kp [] [22, 23, 24, 25] s r.2 := by
  intro s x1 h
  rw [f_X9_searched] at h
  rcases Classical.em ((s.1 28) = 3) with c1 | c1
  · replace h := g_pos c1 h
    rcases (Classical.em (x1 = 0)).symm with c2 | c2
    · replace h := g_neg c2 h
      exact Kp.tr (Kp.sa (by decide) (Kp.sa (by decide) Kp.rf)) (fr_X9_searched_75 r gφ (sa (sa s 23 ((0 : Int32).toNatClampNeg) (-2 : Int32)) 24 ((0 : Int32).toNatClampNeg) 0) x1 0 ((s.1 27) - (s.1 27) / 2 * 2) (s.1 27) h)
    · replace h := g_pos c2 h
      rw [← Option.some.inj h]
      exact Kp.rf
  · replace h := g_neg c1 h
    rcases (Classical.em ((s.1 28) = 2)).symm with c3 | c3
    · replace h := g_neg c3 h
      rcases (Classical.em ((s.1 28) = ((s.1 27) - (s.1 27) / 2 * 2))).symm with c4 | c4
      · replace h := g_neg c4 h
        rw [← Option.some.inj h]
        exact Kp.rf
      · replace h := g_pos c4 h
        rw [← Option.some.inj h]
        exact Kp.rf
    · replace h := g_pos c3 h
      rw [← Option.some.inj h]
      exact Kp.rf
theorem fr_X9_searched (s : gS) (x1 : Int32) (r : Int32 × gS) (h : f_X9_searched s x1 = some r) : Kp [] [22, 23, 24, 25] s r.2 := fr0_X9_searched r s x1 h
set_option maxHeartbeats 4000000 in
theorem fr0_X9_value (r : Int32 × gS) : ∀ (s : gS) (x1 : Int32) (x2 : Int32) , f_X9_value s x1 x2 = some r → Kp [27, 28] [22, 23, 24, 25] s r.2 := by
  intro s x1 x2 h
  rw [f_X9_value] at h
  obtain ⟨r1, e2, h⟩ := g_bind h
  rcases Classical.em (r1 = 0) with c3 | c3
  · replace h := g_pos c3 h
    rw [← Option.some.inj h]
    exact Kp.rf
  · replace h := g_neg c3 h
    obtain ⟨r4, e5, h⟩ := g_bind h
    rcases (Classical.em (r4 = 0)).symm with c6 | c6
    · replace h := g_neg c6 h
      obtain ⟨r7, e8, h⟩ := g_bind h
      obtain ⟨r9, e10, h⟩ := g_bind h
      rw [← Option.some.inj h]
      exact (Kp.tr (Kp.tr Kp.rf (Kp.mo (fr_X9_setsUp s x1 r7 e8) (by decide) (by decide))) (Kp.mo (fr_X9_searched r7 x2 r9 e10) (by decide) (by decide)))
    · replace h := g_pos c6 h
      rw [← Option.some.inj h]
      exact Kp.rf
theorem fr_X9_value (s : gS) (x1 : Int32) (x2 : Int32) (r : Int32 × gS) (h : f_X9_value s x1 x2 = some r) : Kp [27, 28] [22, 23, 24, 25] s r.2 := fr0_X9_value r s x1 x2 h
set_option maxHeartbeats 4000000 in
theorem fr0_X9_behind (r : Int32 × gS) : ∀ (s : gS) (x1 : Int32) (x2 : Int32) (x3 : Int32) , f_X9_behind s x1 x2 x3 = some r → Kp [27, 28] [22, 23, 24, 25] s r.2 := by
  intro s x1 x2 x3 h
  rw [f_X9_behind] at h
  obtain ⟨r1, e2, h⟩ := g_bind h
  rcases (Classical.em ((r1.1 28) = 3)).symm with c3 | c3
  · replace h := g_neg c3 h
    rw [← Option.some.inj h]
    exact (Kp.tr Kp.rf (Kp.mo (fr_X9_setsUp s x1 r1 e2) (by decide) (by decide)))
  · replace h := g_pos c3 h
    obtain ⟨r4, e5, h⟩ := g_bind h
    rcases (Classical.em (r4 = 0)).symm with c6 | c6
    · replace h := g_neg c6 h
      obtain ⟨r7, e8, h⟩ := g_bind h
      obtain ⟨r9, e10, h⟩ := g_bind h
      rw [← Option.some.inj h]
      exact (Kp.tr (Kp.tr (Kp.tr Kp.rf (Kp.mo (fr_X9_setsUp s x1 r1 e2) (by decide) (by decide))) (Kp.mo (fr_X9_sets r1 x2 r7 e8) (by decide) (by decide))) (Kp.mo (fr_X9_searched r7 x3 r9 e10) (by decide) (by decide)))
    · replace h := g_pos c6 h
      rw [← Option.some.inj h]
      exact (Kp.tr Kp.rf (Kp.mo (fr_X9_setsUp s x1 r1 e2) (by decide) (by decide)))
theorem fr_X9_behind (s : gS) (x1 : Int32) (x2 : Int32) (x3 : Int32) (r : Int32 × gS) (h : f_X9_behind s x1 x2 x3 = some r) : Kp [27, 28] [22, 23, 24, 25] s r.2 := fr0_X9_behind r s x1 x2 x3 h
set_option maxHeartbeats 4000000 in
theorem fr_X9_best_81 (K32 : gS → Int32 → Int32 → Int32 → Int32 → Int32 → Option (Int32 × gS)) (r : Int32 × gS) (hK32 : ∀ (s : gS) (x1 : Int32) (x2 : Int32) (x3 : Int32) (x4 : Int32) (x5 : Int32) , K32 s x1 x2 x3 x4 x5 = some r → Kp [27, 28] [22, 23, 24, 25] s r.2) : ∀ (s : gS) (x1 : Int32) (x2 : Int32) (x3 : Int32) (x4 : Int32) (x5 : Int32) , f_X9_best_81 K32 s x1 x2 x3 x4 x5 = some r → Kp [27, 28] [22, 23, 24, 25] s r.2 := by
  intro s x1 x2 x3 x4 x5 h
  rw [f_X9_best_81] at h
  exact Kp.tr Kp.rf (hK32 s x1 x2 x3 x4 (x5 + 1) h)
set_option maxHeartbeats 4000000 in
theorem fr_X9_best_32 (r : Int32 × gS) : ∀ (φ : Nat) (s : gS) (x1 : Int32) (x2 : Int32) (x3 : Int32) (x4 : Int32) (x5 : Int32) , f_X9_best_32 φ s x1 x2 x3 x4 x5 = some r → Kp [27, 28] [22, 23, 24, 25] s r.2 := by
  intro φ
  induction φ with
  | zero =>
    intro s x1 x2 x3 x4 x5 h
    exact absurd h (by intro h0; cases h0)
  | succ φ ih =>
    intro s x1 x2 x3 x4 x5 h
    rw [f_X9_best_32] at h
    rcases Classical.em (((s.1 20) * (s.1 21)) ≤ x5) with c1 | c1
    · replace h := g_pos c1 h
      rw [← Option.some.inj h]
      exact Kp.rf
    · replace h := g_neg c1 h
      obtain ⟨r2, e3, h⟩ := g_bind h
      rcases Classical.em (r2.1 ≤ x3) with c4 | c4
      · replace h := g_pos c4 h
        exact Kp.tr (Kp.tr Kp.rf (Kp.mo (fr_X9_behind s x1 x5 (x2 - 1) r2 e3) (by decide) (by decide))) (fr_X9_best_81 (f_X9_best_32 φ) r (fun s x1 x2 x3 x4 x5 h => ih s x1 x2 x3 x4 x5 h) r2.2 x1 x2 x3 x4 x5 h)
      · replace h := g_neg c4 h
        rcases (Classical.em (r2.1 = (-3 : Int32))).symm with c5 | c5
        · replace h := g_neg c5 h
          exact Kp.tr (Kp.tr Kp.rf (Kp.mo (fr_X9_behind s x1 x5 (x2 - 1) r2 e3) (by decide) (by decide))) (fr_X9_best_81 (f_X9_best_32 φ) r (fun s x1 x2 x3 x4 x5 h => ih s x1 x2 x3 x4 x5 h) r2.2 x1 x2 r2.1 x5 x5 h)
        · replace h := g_pos c5 h
          exact Kp.tr (Kp.tr Kp.rf (Kp.mo (fr_X9_behind s x1 x5 (x2 - 1) r2 e3) (by decide) (by decide))) (fr_X9_best_81 (f_X9_best_32 φ) r (fun s x1 x2 x3 x4 x5 h => ih s x1 x2 x3 x4 x5 h) r2.2 x1 x2 x3 x4 x5 h)
set_option maxHeartbeats 4000000 in
theorem fr0_X9_best (r : Int32 × gS) : ∀ (s : gS) (x1 : Int32) (x2 : Int32) , f_X9_best s x1 x2 = some r → Kp [27, 28] [22, 23, 24, 25] s r.2 := by
  intro s x1 x2 h
  rw [f_X9_best] at h
  obtain ⟨r1, e2, h⟩ := g_bind h
  rcases Classical.em (r1 = 0) with c3 | c3
  · replace h := g_pos c3 h
    rw [← Option.some.inj h]
    exact Kp.rf
  · replace h := g_neg c3 h
    obtain ⟨r4, e5, h⟩ := g_bind h
    rcases (Classical.em (r4 = 0)).symm with c6 | c6
    · replace h := g_neg c6 h
      exact Kp.tr Kp.rf (fr_X9_best_32 r gφ s x1 x2 (-2 : Int32) (-1 : Int32) 0 h)
    · replace h := g_pos c6 h
      rw [← Option.some.inj h]
      exact Kp.rf
theorem fr_X9_best (s : gS) (x1 : Int32) (x2 : Int32) (r : Int32 × gS) (h : f_X9_best s x1 x2 = some r) : Kp [27, 28] [22, 23, 24, 25] s r.2 := fr0_X9_best r s x1 x2 h
set_option maxHeartbeats 4000000 in
theorem fr_X9_leader_74 (r : Int32 × gS) : ∀ (s : gS) (x1 : Int32) , f_X9_leader_74 s x1 = some r → Kp [27, 28] [22, 23, 24, 25, 26, 27] s r.2 := by
  intro s x1 h
  rw [f_X9_leader_74] at h
  obtain ⟨g1, h⟩ := g_guard h
  rw [← Option.some.inj h]
  exact Kp.rf
set_option maxHeartbeats 4000000 in
theorem fr_X9_leader_66 (r : Int32 × gS) : ∀ (s : gS) (x1 : Int32) (t1 : Int32) (t2 : Int32) , f_X9_leader_66 s x1 t1 t2 = some r → Kp [27, 28] [22, 23, 24, 25, 26, 27] s r.2 := by
  intro s x1 t1 t2 h
  rw [f_X9_leader_66] at h
  obtain ⟨g1, h⟩ := g_guard h
  obtain ⟨g2, h⟩ := g_guard h
  exact Kp.tr (Kp.sa (by decide) (Kp.sa (by decide) Kp.rf)) (fr_X9_leader_74 r (sa (sa s 26 t1.toNatClampNeg t2) 27 x1.toNatClampNeg (1 &&& 1)) x1 h)
set_option maxHeartbeats 4000000 in
theorem fr0_X9_leader (r : Int32 × gS) : ∀ (s : gS) (x1 : Int32) , f_X9_leader s x1 = some r → Kp [27, 28] [22, 23, 24, 25, 26, 27] s r.2 := by
  intro s x1 h
  rw [f_X9_leader] at h
  obtain ⟨r1, e2, h⟩ := g_bind h
  rcases (Classical.em (r1 = 0)).symm with c3 | c3
  · replace h := g_neg c3 h
    obtain ⟨g4, h⟩ := g_guard h
    rcases (Classical.em ((s.2 27 x1.toNatClampNeg) = 0)).symm with c5 | c5
    · replace h := g_neg c5 h
      exact Kp.tr Kp.rf (fr_X9_leader_74 r s x1 h)
    · replace h := g_pos c5 h
      obtain ⟨r6, e7, h⟩ := g_bind h
      obtain ⟨r8, e9, h⟩ := g_bind h
      rcases (Classical.em (r8.1 = 0)).symm with c10 | c10
      · replace h := g_neg c10 h
        rcases (Classical.em (r8.1 = 1)).symm with c11 | c11
        · replace h := g_neg c11 h
          exact Kp.tr (Kp.tr (Kp.tr Kp.rf (Kp.mo (fr_X9_setsUp s x1 r6 e7) (by decide) (by decide))) (Kp.mo (fr_X9_searched r6 (r6.1 24) r8 e9) (by decide) (by decide))) (fr_X9_leader_66 r r8.2 x1 x1 (1 - (x1 - x1 / 2 * 2)) h)
        · replace h := g_pos c11 h
          exact Kp.tr (Kp.tr (Kp.tr Kp.rf (Kp.mo (fr_X9_setsUp s x1 r6 e7) (by decide) (by decide))) (Kp.mo (fr_X9_searched r6 (r6.1 24) r8 e9) (by decide) (by decide))) (fr_X9_leader_66 r r8.2 x1 x1 (x1 - x1 / 2 * 2) h)
      · replace h := g_pos c10 h
        exact Kp.tr (Kp.tr (Kp.tr Kp.rf (Kp.mo (fr_X9_setsUp s x1 r6 e7) (by decide) (by decide))) (Kp.mo (fr_X9_searched r6 (r6.1 24) r8 e9) (by decide) (by decide))) (fr_X9_leader_66 r r8.2 x1 x1 2 h)
  · replace h := g_pos c3 h
    rw [← Option.some.inj h]
    exact Kp.rf
theorem fr_X9_leader (s : gS) (x1 : Int32) (r : Int32 × gS) (h : f_X9_leader s x1 = some r) : Kp [27, 28] [22, 23, 24, 25, 26, 27] s r.2 := fr0_X9_leader r s x1 h
set_option maxHeartbeats 4000000 in
theorem fr_X9_turn_17 (r : Int32 × gS) : ∀ (φ : Nat) (s : gS) (x1 : Int32) (x2 : Int32) (x3 : Int32) , f_X9_turn_17 φ s x1 x2 x3 = some r → Kp [27, 28] [22, 23, 24, 25, 26, 27] s r.2 := by
  intro φ
  induction φ with
  | zero =>
    intro s x1 x2 x3 h
    exact absurd h (by intro h0; cases h0)
  | succ φ ih =>
    intro s x1 x2 x3 h
    rw [f_X9_turn_17] at h
    rcases Classical.em ((s.1 23) < x3) with c1 | c1
    · replace h := g_pos c1 h
      rcases Classical.em (x1 = 1) with c2 | c2
      · replace h := g_pos c2 h
        rw [← Option.some.inj h]
        exact Kp.rf
      · replace h := g_neg c2 h
        obtain ⟨r3, e4, h⟩ := g_bind h
        rcases Classical.em (r3.1 = x2) with c5 | c5
        · replace h := g_pos c5 h
          rw [← Option.some.inj h]
          exact (Kp.tr Kp.rf (Kp.mo (fr_X9_leader s (x1 - 1) r3 e4) (by decide) (by decide)))
        · replace h := g_neg c5 h
          rw [← Option.some.inj h]
          exact (Kp.tr Kp.rf (Kp.mo (fr_X9_leader s (x1 - 1) r3 e4) (by decide) (by decide)))
    · replace h := g_neg c1 h
      obtain ⟨r6, e7, h⟩ := g_bind h
      rcases Classical.em (r6.1 = x2) with c8 | c8
      · replace h := g_pos c8 h
        exact Kp.tr (Kp.tr Kp.rf (Kp.mo (fr_X9_leader s x3 r6 e7) (by decide) (by decide))) (ih r6.2 x1 x2 (x3 + 1) h)
      · replace h := g_neg c8 h
        rw [← Option.some.inj h]
        exact (Kp.tr Kp.rf (Kp.mo (fr_X9_leader s x3 r6 e7) (by decide) (by decide)))
set_option maxHeartbeats 4000000 in
theorem fr0_X9_turn (r : Int32 × gS) : ∀ (s : gS) (x1 : Int32) , f_X9_turn s x1 = some r → Kp [27, 28] [22, 23, 24, 25, 26, 27] s r.2 := by
  intro s x1 h
  rw [f_X9_turn] at h
  obtain ⟨r1, e2, h⟩ := g_bind h
  rcases (Classical.em (r1.1 = 2)).symm with c3 | c3
  · replace h := g_neg c3 h
    exact Kp.tr (Kp.tr Kp.rf (Kp.mo (fr_X9_leader s x1 r1 e2) (by decide) (by decide))) (fr_X9_turn_17 r gφ r1.2 x1 r1.1 (x1 + 1) h)
  · replace h := g_pos c3 h
    rw [← Option.some.inj h]
    exact (Kp.tr Kp.rf (Kp.mo (fr_X9_leader s x1 r1 e2) (by decide) (by decide)))
theorem fr_X9_turn (s : gS) (x1 : Int32) (r : Int32 × gS) (h : f_X9_turn s x1 = some r) : Kp [27, 28] [22, 23, 24, 25, 26, 27] s r.2 := fr0_X9_turn r s x1 h
set_option maxHeartbeats 4000000 in
theorem fr0_X9_missed (r : Int32 × gS) : ∀ (s : gS) (x1 : Int32) , f_X9_missed s x1 = some r → Kp [27, 28] [22] s r.2 := by
  intro s x1 h
  rw [f_X9_missed] at h
  obtain ⟨r1, e2, h⟩ := g_bind h
  obtain ⟨g3, h⟩ := g_guard h
  obtain ⟨r4, e5, h⟩ := g_bind h
  rcases Classical.em (r4 = 0) with c6 | c6
  · replace h := g_pos c6 h
    obtain ⟨r7, e8, h⟩ := g_bind h
    rw [← Option.some.inj h]
    exact (Kp.tr Kp.rf (Kp.mo (fr_X9_setsUp s (x1 - 1) r1 e2) (by decide) (by decide)))
  · replace h := g_neg c6 h
    rw [← Option.some.inj h]
    exact (Kp.tr Kp.rf (Kp.mo (fr_X9_setsUp s (x1 - 1) r1 e2) (by decide) (by decide)))
theorem fr_X9_missed (s : gS) (x1 : Int32) (r : Int32 × gS) (h : f_X9_missed s x1 = some r) : Kp [27, 28] [22] s r.2 := fr0_X9_missed r s x1 h
set_option maxHeartbeats 4000000 in
theorem fr0_X9_slip (r : Int32 × gS) : ∀ (s : gS) (x1 : Int32) , f_X9_slip s x1 = some r → Kp [27, 28] [22, 23, 24, 25] s r.2 := by
  intro s x1 h
  rw [f_X9_slip] at h
  obtain ⟨r1, e2, h⟩ := g_bind h
  obtain ⟨g3, h⟩ := g_guard h
  obtain ⟨r4, e5, h⟩ := g_bind h
  rw [← Option.some.inj h]
  exact (Kp.tr (Kp.tr Kp.rf (Kp.mo (fr_X9_value s (x1 - 1) (s.1 24) r1 e2) (by decide) (by decide))) (Kp.mo (fr_X9_behind r1.2 (x1 - 1) (r1.2.2 20 (x1 - 1).toNatClampNeg) ((r1.2.1 24) - 1) r4 e5) (by decide) (by decide)))
theorem fr_X9_slip (s : gS) (x1 : Int32) (r : Int32 × gS) (h : f_X9_slip s x1 = some r) : Kp [27, 28] [22, 23, 24, 25] s r.2 := fr0_X9_slip r s x1 h
set_option maxHeartbeats 4000000 in
theorem fr_X9_forced_64 (K7 : gS → Int32 → Int32 → Int32 → Int32 → Option (Int32 × gS)) (r : Int32 × gS) (hK7 : ∀ (s : gS) (x1 : Int32) (x2 : Int32) (x3 : Int32) (x4 : Int32) , K7 s x1 x2 x3 x4 = some r → Kp [27, 28] [22, 23, 24, 25] s r.2) : ∀ (s : gS) (x1 : Int32) (x2 : Int32) (x4 : Int32) (t0 : Int32) (t1 : Int32) , f_X9_forced_64 K7 s x1 x2 x4 t0 t1 = some r → Kp [27, 28] [22, 23, 24, 25] s r.2 := by
  intro s x1 x2 x4 t0 t1 h
  rw [f_X9_forced_64] at h
  exact Kp.tr Kp.rf (hK7 s x1 x2 (t0 + t1) (x4 + 1) h)
set_option maxHeartbeats 4000000 in
theorem fr_X9_forced_51 (K7 : gS → Int32 → Int32 → Int32 → Int32 → Option (Int32 × gS)) (r : Int32 × gS) (hK7 : ∀ (s : gS) (x1 : Int32) (x2 : Int32) (x3 : Int32) (x4 : Int32) , K7 s x1 x2 x3 x4 = some r → Kp [27, 28] [22, 23, 24, 25] s r.2) : ∀ (s : gS) (x1 : Int32) (x3 : Int32) (x4 : Int32) (x5 : Int32) (t0 : Int32) (t1 : Int32) , f_X9_forced_51 K7 s x1 x3 x4 x5 t0 t1 = some r → Kp [27, 28] [22, 23, 24, 25] s r.2 := by
  intro s x1 x3 x4 x5 t0 t1 h
  rw [f_X9_forced_51] at h
  rcases Classical.em (x5 < 0) with c1 | c1
  · replace h := g_pos c1 h
    exact Kp.tr Kp.rf (fr_X9_forced_64 K7 r hK7 s x1 (t0 + t1) x4 x3 0 h)
  · replace h := g_neg c1 h
    exact Kp.tr Kp.rf (fr_X9_forced_64 K7 r hK7 s x1 (t0 + t1) x4 x3 1 h)
set_option maxHeartbeats 4000000 in
theorem fr_X9_forced_7 (r : Int32 × gS) : ∀ (φ : Nat) (s : gS) (x1 : Int32) (x2 : Int32) (x3 : Int32) (x4 : Int32) , f_X9_forced_7 φ s x1 x2 x3 x4 = some r → Kp [27, 28] [22, 23, 24, 25] s r.2 := by
  intro φ
  induction φ with
  | zero =>
    intro s x1 x2 x3 x4 h
    exact absurd h (by intro h0; cases h0)
  | succ φ ih =>
    intro s x1 x2 x3 x4 h
    rw [f_X9_forced_7] at h
    rcases Classical.em (((s.1 20) * (s.1 21)) ≤ x4) with c1 | c1
    · replace h := g_pos c1 h
      rcases Classical.em (x2 < 2) with c2 | c2
      · replace h := g_pos c2 h
        rw [← Option.some.inj h]
        exact Kp.rf
      · replace h := g_neg c2 h
        rcases (Classical.em (x3 = 1)).symm with c3 | c3
        · replace h := g_neg c3 h
          rw [← Option.some.inj h]
          exact Kp.rf
        · replace h := g_pos c3 h
          obtain ⟨g4, h⟩ := g_guard h
          obtain ⟨r5, e6, h⟩ := g_bind h
          rcases Classical.em (r5.1 < 0) with c7 | c7
          · replace h := g_pos c7 h
            rw [← Option.some.inj h]
            exact (Kp.tr Kp.rf (Kp.mo (fr_X9_behind s (x1 - 1) (s.2 20 (x1 - 1).toNatClampNeg) ((s.1 24) - 1) r5 e6) (by decide) (by decide)))
          · replace h := g_neg c7 h
            rw [← Option.some.inj h]
            exact (Kp.tr Kp.rf (Kp.mo (fr_X9_behind s (x1 - 1) (s.2 20 (x1 - 1).toNatClampNeg) ((s.1 24) - 1) r5 e6) (by decide) (by decide)))
    · replace h := g_neg c1 h
      obtain ⟨r8, e9, h⟩ := g_bind h
      rcases (Classical.em (r8.1 = (-3 : Int32))).symm with c10 | c10
      · replace h := g_neg c10 h
        exact Kp.tr (Kp.tr Kp.rf (Kp.mo (fr_X9_behind s (x1 - 1) x4 ((s.1 24) - 1) r8 e9) (by decide) (by decide))) (fr_X9_forced_51 (f_X9_forced_7 φ) r (fun s x1 x2 x3 x4 h => ih s x1 x2 x3 x4 h) r8.2 x1 x3 x4 r8.1 x2 1 h)
      · replace h := g_pos c10 h
        exact Kp.tr (Kp.tr Kp.rf (Kp.mo (fr_X9_behind s (x1 - 1) x4 ((s.1 24) - 1) r8 e9) (by decide) (by decide))) (fr_X9_forced_51 (f_X9_forced_7 φ) r (fun s x1 x2 x3 x4 h => ih s x1 x2 x3 x4 h) r8.2 x1 x3 x4 r8.1 x2 0 h)
set_option maxHeartbeats 4000000 in
theorem fr0_X9_forced (r : Int32 × gS) : ∀ (s : gS) (x1 : Int32) , f_X9_forced s x1 = some r → Kp [27, 28] [22, 23, 24, 25] s r.2 := by
  intro s x1 h
  rw [f_X9_forced] at h
  exact Kp.tr Kp.rf (fr_X9_forced_7 r gφ s x1 0 0 0 h)
theorem fr_X9_forced (s : gS) (x1 : Int32) (r : Int32 × gS) (h : f_X9_forced s x1 = some r) : Kp [27, 28] [22, 23, 24, 25] s r.2 := fr0_X9_forced r s x1 h
set_option maxHeartbeats 4000000 in
theorem fr0_X9_threat (r : Int32 × gS) : ∀ (s : gS) (x1 : Int32) , f_X9_threat s x1 = some r → Kp [27, 28] [22] s r.2 := by
  intro s x1 h
  rw [f_X9_threat] at h
  obtain ⟨r1, e2, h⟩ := g_bind h
  rcases Classical.em ((r1.1 28) = 3) with c3 | c3
  · replace h := g_pos c3 h
    obtain ⟨r4, e5, h⟩ := g_bind h
    rw [← Option.some.inj h]
    exact (Kp.tr Kp.rf (Kp.mo (fr_X9_setsUp s x1 r1 e2) (by decide) (by decide)))
  · replace h := g_neg c3 h
    rw [← Option.some.inj h]
    exact (Kp.tr Kp.rf (Kp.mo (fr_X9_setsUp s x1 r1 e2) (by decide) (by decide)))
theorem fr_X9_threat (s : gS) (x1 : Int32) (r : Int32 × gS) (h : f_X9_threat s x1 = some r) : Kp [27, 28] [22] s r.2 := fr0_X9_threat r s x1 h
set_option maxHeartbeats 4000000 in
theorem fr0_X9_found (r : Int32 × gS) : ∀ (s : gS) (x1 : Int32) (x2 : Int32) , f_X9_found s x1 x2 = some r → Kp [27, 28] [22, 23, 24, 25, 26, 27] s r.2 := by
  intro s x1 x2 h
  rw [f_X9_found] at h
  obtain ⟨r1, e2, h⟩ := g_bind h
  rcases (Classical.em (r1 = 0)).symm with c3 | c3
  · replace h := g_neg c3 h
    by_cases c4 : x2 = 0
    · replace h := g_pos c4 h
      obtain ⟨r5, e6, h⟩ := g_bind h
      rcases (Classical.em ((r5.1 28) = ((x1 - 1) - (x1 - 1) / 2 * 2))).symm with c7 | c7
      · replace h := g_neg c7 h
        rw [← Option.some.inj h]
        exact (Kp.tr Kp.rf (Kp.mo (fr_X9_setsUp s x1 r5 e6) (by decide) (by decide)))
      · replace h := g_pos c7 h
        rw [← Option.some.inj h]
        exact (Kp.tr Kp.rf (Kp.mo (fr_X9_setsUp s x1 r5 e6) (by decide) (by decide)))
    replace h := g_neg c4 h
    by_cases c8 : x2 = 1
    · replace h := g_pos c8 h
      obtain ⟨r9, e10, h⟩ := g_bind h
      rw [← Option.some.inj h]
      exact (Kp.tr Kp.rf (Kp.mo (fr_X9_threat s x1 r9 e10) (by decide) (by decide)))
    replace h := g_neg c8 h
    by_cases c11 : x2 = 2
    · replace h := g_pos c11 h
      obtain ⟨r12, e13, h⟩ := g_bind h
      rw [← Option.some.inj h]
      exact (Kp.tr Kp.rf (Kp.mo (fr_X9_forced s x1 r12 e13) (by decide) (by decide)))
    replace h := g_neg c11 h
    by_cases c14 : x2 = 3
    · replace h := g_pos c14 h
      obtain ⟨r15, e16, h⟩ := g_bind h
      rw [← Option.some.inj h]
      exact (Kp.tr Kp.rf (Kp.mo (fr_X9_slip s x1 r15 e16) (by decide) (by decide)))
    replace h := g_neg c14 h
    by_cases c17 : x2 = 4
    · replace h := g_pos c17 h
      obtain ⟨r18, e19, h⟩ := g_bind h
      rw [← Option.some.inj h]
      exact (Kp.tr Kp.rf (Kp.mo (fr_X9_missed s x1 r18 e19) (by decide) (by decide)))
    replace h := g_neg c17 h
    by_cases c20 : x2 = 5
    · replace h := g_pos c20 h
      obtain ⟨r21, e22, h⟩ := g_bind h
      rw [← Option.some.inj h]
      exact (Kp.tr Kp.rf (Kp.mo (fr_X9_turn s x1 r21 e22) (by decide) (by decide)))
    replace h := g_neg c20 h
    rw [← Option.some.inj h]
    exact Kp.rf
  · replace h := g_pos c3 h
    rw [← Option.some.inj h]
    exact Kp.rf
theorem fr_X9_found (s : gS) (x1 : Int32) (x2 : Int32) (r : Int32 × gS) (h : f_X9_found s x1 x2 = some r) : Kp [27, 28] [22, 23, 24, 25, 26, 27] s r.2 := fr0_X9_found r s x1 x2 h
set_option maxHeartbeats 4000000 in
theorem fr_X9_reaches_56 (K17 : gS → Int32 → Int32 → Int32 → Int32 → Int32 → Int32 → Int32 → Int32 → Int32 → Option (Int32 × gS)) (r : Int32 × gS) (hK17 : ∀ (s : gS) (x1 : Int32) (x2 : Int32) (x3 : Int32) (x4 : Int32) (x5 : Int32) (x6 : Int32) (x7 : Int32) (x8 : Int32) (x9 : Int32) , K17 s x1 x2 x3 x4 x5 x6 x7 x8 x9 = some r → Kp [27, 28] [22] s r.2) : ∀ (s : gS) (x1 : Int32) (x2 : Int32) (x3 : Int32) (x4 : Int32) (x5 : Int32) (x6 : Int32) (x7 : Int32) (x9 : Int32) (t0 : Int32) , f_X9_reaches_56 K17 s x1 x2 x3 x4 x5 x6 x7 x9 t0 = some r → Kp [27, 28] [22] s r.2 := by
  intro s x1 x2 x3 x4 x5 x6 x7 x9 t0 h
  rw [f_X9_reaches_56] at h
  obtain ⟨r1, e2, h⟩ := g_bind h
  rcases (Classical.em (r1 = 0)).symm with c3 | c3
  · replace h := g_neg c3 h
    obtain ⟨g4, h⟩ := g_guard h
    obtain ⟨r5, e6, h⟩ := g_bind h
    exact Kp.tr (Kp.sa (by decide) Kp.rf) (hK17 (sa s 22 t0.toNatClampNeg x1) x1 x2 x3 x4 x5 x6 (x7 + 1) r5 (x9 + 1) h)
  · replace h := g_pos c3 h
    rw [← Option.some.inj h]
    exact Kp.rf
set_option maxHeartbeats 4000000 in
theorem fr_X9_reaches_17 (r : Int32 × gS) : ∀ (φ : Nat) (s : gS) (x1 : Int32) (x2 : Int32) (x3 : Int32) (x4 : Int32) (x5 : Int32) (x6 : Int32) (x7 : Int32) (x8 : Int32) (x9 : Int32) , f_X9_reaches_17 φ s x1 x2 x3 x4 x5 x6 x7 x8 x9 = some r → Kp [27, 28] [22] s r.2 := by
  intro φ
  induction φ with
  | zero =>
    intro s x1 x2 x3 x4 x5 x6 x7 x8 x9 h
    exact absurd h (by intro h0; cases h0)
  | succ φ ih =>
    intro s x1 x2 x3 x4 x5 x6 x7 x8 x9 h
    rw [f_X9_reaches_17] at h
    rcases Classical.em (x2 ≤ x9) with c1 | c1
    · replace h := g_pos c1 h
      obtain ⟨g2, h⟩ := g_guard h
      rw [← Option.some.inj h]
      exact Kp.rf
    · replace h := g_neg c1 h
      rcases (Classical.em (x9 = 0)).symm with c3 | c3
      · replace h := g_neg c3 h
        rcases (Classical.em (x9 = 1)).symm with c4 | c4
        · replace h := g_neg c4 h
          rcases (Classical.em (x9 = 2)).symm with c5 | c5
          · replace h := g_neg c5 h
            exact Kp.tr Kp.rf (fr_X9_reaches_56 (f_X9_reaches_17 φ) r (fun s x1 x2 x3 x4 x5 x6 x7 x8 x9 h => ih s x1 x2 x3 x4 x5 x6 x7 x8 x9 h) s x1 x2 x3 x4 x5 x6 x7 x9 x6 h)
          · replace h := g_pos c5 h
            exact Kp.tr Kp.rf (fr_X9_reaches_56 (f_X9_reaches_17 φ) r (fun s x1 x2 x3 x4 x5 x6 x7 x8 x9 h => ih s x1 x2 x3 x4 x5 x6 x7 x8 x9 h) s x1 x2 x3 x4 x5 x6 x7 x9 x5 h)
        · replace h := g_pos c4 h
          exact Kp.tr Kp.rf (fr_X9_reaches_56 (f_X9_reaches_17 φ) r (fun s x1 x2 x3 x4 x5 x6 x7 x8 x9 h => ih s x1 x2 x3 x4 x5 x6 x7 x8 x9 h) s x1 x2 x3 x4 x5 x6 x7 x9 x4 h)
      · replace h := g_pos c3 h
        exact Kp.tr Kp.rf (fr_X9_reaches_56 (f_X9_reaches_17 φ) r (fun s x1 x2 x3 x4 x5 x6 x7 x8 x9 h => ih s x1 x2 x3 x4 x5 x6 x7 x8 x9 h) s x1 x2 x3 x4 x5 x6 x7 x9 x3 h)
set_option maxHeartbeats 4000000 in
theorem fr0_X9_reaches (r : Int32 × gS) : ∀ (s : gS) (x1 : Int32) (x2 : Int32) (x3 : Int32) (x4 : Int32) (x5 : Int32) (x6 : Int32) , f_X9_reaches s x1 x2 x3 x4 x5 x6 = some r → Kp [27, 28] [22] s r.2 := by
  intro s x1 x2 x3 x4 x5 x6 h
  rw [f_X9_reaches] at h
  obtain ⟨r1, e2, h⟩ := g_bind h
  exact Kp.tr (Kp.tr Kp.rf (Kp.mo (fr_X9_setsUp s (s.1 23) r1 e2) (by decide) (by decide))) (fr_X9_reaches_17 r gφ r1 x1 x2 x3 x4 x5 x6 0 0 0 h)
theorem fr_X9_reaches (s : gS) (x1 : Int32) (x2 : Int32) (x3 : Int32) (x4 : Int32) (x5 : Int32) (x6 : Int32) (r : Int32 × gS) (h : f_X9_reaches s x1 x2 x3 x4 x5 x6 = some r) : Kp [27, 28] [22] s r.2 := fr0_X9_reaches r s x1 x2 x3 x4 x5 x6 h
set_option maxHeartbeats 4000000 in
theorem fr_X9_plan_49 (K41 : gS → Int32 → Int32 → Int32 → Option (Int32 × gS)) (r : Int32 × gS) (hK41 : ∀ (s : gS) (x1 : Int32) (x2 : Int32) (x3 : Int32) , K41 s x1 x2 x3 = some r → Kp [27, 28] [22] s r.2) : ∀ (φ : Nat) (s : gS) (x1 : Int32) (x2 : Int32) (x3 : Int32) (x4 : Int32) , f_X9_plan_49 K41 φ s x1 x2 x3 x4 = some r → Kp [27, 28] [22] s r.2 := by
  intro φ
  induction φ with
  | zero =>
    intro s x1 x2 x3 x4 h
    exact absurd h (by intro h0; cases h0)
  | succ φ ih =>
    intro s x1 x2 x3 x4 h
    rw [f_X9_plan_49] at h
    obtain ⟨r1, e2, h⟩ := g_bind h
    rcases Classical.em (r1 ≤ x4) with c3 | c3
    · replace h := g_pos c3 h
      exact Kp.tr Kp.rf (hK41 s x1 x2 (x3 + 1) h)
    · replace h := g_neg c3 h
      obtain ⟨g4, h⟩ := g_guard h
      obtain ⟨g5, h⟩ := g_guard h
      obtain ⟨g6, h⟩ := g_guard h
      obtain ⟨g7, h⟩ := g_guard h
      obtain ⟨g8, h⟩ := g_guard h
      obtain ⟨g9, h⟩ := g_guard h
      obtain ⟨g10, h⟩ := g_guard h
      obtain ⟨r11, e12, h⟩ := g_bind h
      rcases Classical.em (r11.1 = 0) with c13 | c13
      · replace h := g_pos c13 h
        exact Kp.tr (Kp.tr Kp.rf (Kp.mo (fr_X9_reaches s x1 x3 (x4 - x4 / x2 * x2) ((x4 / x2) - (x4 / x2) / x2 * x2) (((x4 / x2) / x2) - ((x4 / x2) / x2) / x2 * x2) ((((x4 / x2) / x2) / x2) - (((x4 / x2) / x2) / x2) / x2 * x2) r11 e12) (by decide) (by decide))) (ih r11.2 x1 x2 x3 (x4 + 1) h)
      · replace h := g_neg c13 h
        rw [← Option.some.inj h]
        exact (Kp.tr Kp.rf (Kp.mo (fr_X9_reaches s x1 x3 (x4 - x4 / x2 * x2) ((x4 / x2) - (x4 / x2) / x2 * x2) (((x4 / x2) / x2) - ((x4 / x2) / x2) / x2 * x2) ((((x4 / x2) / x2) / x2) - (((x4 / x2) / x2) / x2) / x2 * x2) r11 e12) (by decide) (by decide)))
set_option maxHeartbeats 4000000 in
theorem fr_X9_plan_41 (r : Int32 × gS) : ∀ (φ : Nat) (s : gS) (x1 : Int32) (x2 : Int32) (x3 : Int32) , f_X9_plan_41 φ s x1 x2 x3 = some r → Kp [27, 28] [22] s r.2 := by
  intro φ
  induction φ with
  | zero =>
    intro s x1 x2 x3 h
    exact absurd h (by intro h0; cases h0)
  | succ φ ih =>
    intro s x1 x2 x3 h
    rw [f_X9_plan_41] at h
    rcases Classical.em (4 < x3) with c1 | c1
    · replace h := g_pos c1 h
      rw [← Option.some.inj h]
      exact Kp.rf
    · replace h := g_neg c1 h
      exact Kp.tr Kp.rf (fr_X9_plan_49 (f_X9_plan_41 φ) r (fun s x1 x2 x3 h => ih s x1 x2 x3 h) gφ s x1 x2 x3 0 h)
set_option maxHeartbeats 4000000 in
theorem fr0_X9_plan (r : Int32 × gS) : ∀ (s : gS) (x1 : Int32) , f_X9_plan s x1 = some r → Kp [27, 28] [22] s r.2 := by
  intro s x1 h
  rw [f_X9_plan] at h
  obtain ⟨r1, e2, h⟩ := g_bind h
  rcases (Classical.em (r1 = 0)).symm with c3 | c3
  · replace h := g_neg c3 h
    obtain ⟨r4, e5, h⟩ := g_bind h
    rcases Classical.em ((r4.1 28) = 3) with c6 | c6
    · replace h := g_pos c6 h
      exact Kp.tr (Kp.tr Kp.rf (Kp.mo (fr_X9_setsUp s (s.1 23) r4 e5) (by decide) (by decide))) (fr_X9_plan_41 r gφ r4 x1 ((r4.1 20) * (r4.1 21)) 1 h)
    · replace h := g_neg c6 h
      rw [← Option.some.inj h]
      exact (Kp.tr Kp.rf (Kp.mo (fr_X9_setsUp s (s.1 23) r4 e5) (by decide) (by decide)))
  · replace h := g_pos c3 h
    rw [← Option.some.inj h]
    exact Kp.rf
theorem fr_X9_plan (s : gS) (x1 : Int32) (r : Int32 × gS) (h : f_X9_plan s x1 = some r) : Kp [27, 28] [22] s r.2 := fr0_X9_plan r s x1 h
set_option maxHeartbeats 4000000 in
theorem fr0_X9_says (r : gS) : ∀ (s : gS) (x1 : Int32) , f_X9_says s x1 = some r → Kp [29] [28] s r := by
  intro s x1 h
  rw [f_X9_says] at h
  obtain ⟨g1, h⟩ := g_guard h
  rw [← Option.some.inj h]
  exact (Kp.ss (by decide) (Kp.sa (by decide) Kp.rf))
theorem fr_X9_says (s : gS) (x1 : Int32) (r : gS) (h : f_X9_says s x1 = some r) : Kp [29] [28] s r := fr0_X9_says r s x1 h
set_option maxHeartbeats 4000000 in
theorem fr_X9_saysNumber_17 (r : gS) : ∀ (s : gS) (x1 : Int32) , f_X9_saysNumber_17 s x1 = some r → Kp [29] [28] s r := by
  intro s x1 h
  rw [f_X9_saysNumber_17] at h
  obtain ⟨r1, e2, h⟩ := g_bind h
  rw [← Option.some.inj h]
  exact (Kp.tr Kp.rf (Kp.mo (fr_X9_says s (48 + (x1 - x1 / 10 * 10)) r1 e2) (by decide) (by decide)))
set_option maxHeartbeats 4000000 in
theorem fr0_X9_saysNumber (r : gS) : ∀ (s : gS) (x1 : Int32) , f_X9_saysNumber s x1 = some r → Kp [29] [28] s r := by
  intro s x1 h
  rw [f_X9_saysNumber] at h
  rcases Classical.em (x1 < 10) with c1 | c1
  · replace h := g_pos c1 h
    exact Kp.tr Kp.rf (fr_X9_saysNumber_17 r s x1 h)
  · replace h := g_neg c1 h
    obtain ⟨r2, e3, h⟩ := g_bind h
    exact Kp.tr (Kp.tr Kp.rf (Kp.mo (fr_X9_says s (48 + (x1 / 10)) r2 e3) (by decide) (by decide))) (fr_X9_saysNumber_17 r r2 x1 h)
theorem fr_X9_saysNumber (s : gS) (x1 : Int32) (r : gS) (h : f_X9_saysNumber s x1 = some r) : Kp [29] [28] s r := fr0_X9_saysNumber r s x1 h
set_option maxHeartbeats 4000000 in
theorem fr0_X9_saysCell (r : gS) : ∀ (s : gS) (x1 : Int32) , f_X9_saysCell s x1 = some r → Kp [29] [28] s r := by
  intro s x1 h
  rw [f_X9_saysCell] at h
  obtain ⟨g1, h⟩ := g_guard h
  obtain ⟨r2, e3, h⟩ := g_bind h
  obtain ⟨g4, h⟩ := g_guard h
  obtain ⟨r5, e6, h⟩ := g_bind h
  rw [← Option.some.inj h]
  exact (Kp.tr (Kp.tr Kp.rf (Kp.mo (fr_X9_says s (97 + (x1 - x1 / (s.1 20) * (s.1 20))) r2 e3) (by decide) (by decide))) (Kp.mo (fr_X9_says r2 (49 + (x1 / (r2.1 20))) r5 e6) (by decide) (by decide)))
theorem fr_X9_saysCell (s : gS) (x1 : Int32) (r : gS) (h : f_X9_saysCell s x1 = some r) : Kp [29] [28] s r := fr0_X9_saysCell r s x1 h
set_option maxHeartbeats 4000000 in
theorem fr_X9_lowestMissed_9 (r : Int32 × gS) : ∀ (φ : Nat) (s : gS) (x1 : Int32) (x2 : Int32) , f_X9_lowestMissed_9 φ s x1 x2 = some r → Kp [27, 28] [22] s r.2 := by
  intro φ
  induction φ with
  | zero =>
    intro s x1 x2 h
    exact absurd h (by intro h0; cases h0)
  | succ φ ih =>
    intro s x1 x2 h
    rw [f_X9_lowestMissed_9] at h
    rcases Classical.em (((s.1 20) * (s.1 21)) ≤ x2) with c1 | c1
    · replace h := g_pos c1 h
      rw [← Option.some.inj h]
      exact Kp.rf
    · replace h := g_neg c1 h
      obtain ⟨r2, e3, h⟩ := g_bind h
      rcases Classical.em (r2 = 0) with c4 | c4
      · replace h := g_pos c4 h
        exact Kp.tr Kp.rf (ih s x1 (x2 + 1) h)
      · replace h := g_neg c4 h
        rw [← Option.some.inj h]
        exact Kp.rf
set_option maxHeartbeats 4000000 in
theorem fr0_X9_lowestMissed (r : Int32 × gS) : ∀ (s : gS) (x1 : Int32) , f_X9_lowestMissed s x1 = some r → Kp [27, 28] [22] s r.2 := by
  intro s x1 h
  rw [f_X9_lowestMissed] at h
  obtain ⟨r1, e2, h⟩ := g_bind h
  exact Kp.tr (Kp.tr Kp.rf (Kp.mo (fr_X9_setsUp s (x1 - 1) r1 e2) (by decide) (by decide))) (fr_X9_lowestMissed_9 r gφ r1 x1 0 h)
theorem fr_X9_lowestMissed (s : gS) (x1 : Int32) (r : Int32 × gS) (h : f_X9_lowestMissed s x1 = some r) : Kp [27, 28] [22] s r.2 := fr0_X9_lowestMissed r s x1 h
set_option maxHeartbeats 4000000 in
theorem fr_X9_saysMove_143 (r : gS) : ∀ (s : gS) (x1 : Int32) (x2 : Int32) , f_X9_saysMove_143 s x1 x2 = some r → Kp [27, 28, 29] [22, 23, 24, 25, 26, 27, 28] s r := by
  intro s x1 x2 h
  rw [f_X9_saysMove_143] at h
  rcases (Classical.em (x2 = 1)).symm with c1 | c1
  · replace h := g_neg c1 h
    rw [← Option.some.inj h]
    exact Kp.rf
  · replace h := g_pos c1 h
    obtain ⟨r2, e3, h⟩ := g_bind h
    rcases Classical.em (r2.1 ≤ 0) with c4 | c4
    · replace h := g_pos c4 h
      rw [← Option.some.inj h]
      exact (Kp.tr Kp.rf (Kp.mo (fr_X9_found s x1 5 r2 e3) (by decide) (by decide)))
    · replace h := g_neg c4 h
      obtain ⟨r5, e6, h⟩ := g_bind h
      rw [← Option.some.inj h]
      exact (Kp.tr (Kp.tr Kp.rf (Kp.mo (fr_X9_found s x1 5 r2 e3) (by decide) (by decide))) (Kp.mo (fr_X9_says r2.2 61 r5 e6) (by decide) (by decide)))
set_option maxHeartbeats 4000000 in
theorem fr_X9_saysMove_100 (r : gS) : ∀ (φ : Nat) (s : gS) (x1 : Int32) (x2 : Int32) (x4 : Int32) (x5 : Int32) , f_X9_saysMove_100 φ s x1 x2 x4 x5 = some r → Kp [27, 28, 29] [22, 23, 24, 25, 26, 27, 28] s r := by
  intro φ
  induction φ with
  | zero =>
    intro s x1 x2 x4 x5 h
    exact absurd h (by intro h0; cases h0)
  | succ φ ih =>
    intro s x1 x2 x4 x5 h
    rw [f_X9_saysMove_100] at h
    rcases Classical.em (x4 ≤ x5) with c1 | c1
    · replace h := g_pos c1 h
      obtain ⟨r2, e3, h⟩ := g_bind h
      rcases Classical.em (r2.1 ≤ 0) with c4 | c4
      · replace h := g_pos c4 h
        exact Kp.tr (Kp.tr Kp.rf (Kp.mo (fr_X9_found s x1 4 r2 e3) (by decide) (by decide))) (fr_X9_saysMove_143 r r2.2 x1 x2 h)
      · replace h := g_neg c4 h
        obtain ⟨r5, e6, h⟩ := g_bind h
        obtain ⟨r7, e8, h⟩ := g_bind h
        obtain ⟨r9, e10, h⟩ := g_bind h
        exact Kp.tr (Kp.tr (Kp.tr (Kp.tr (Kp.tr Kp.rf (Kp.mo (fr_X9_found s x1 4 r2 e3) (by decide) (by decide))) (Kp.mo (fr_X9_says r2.2 42 r5 e6) (by decide) (by decide))) (Kp.mo (fr_X9_lowestMissed r5 x1 r7 e8) (by decide) (by decide))) (Kp.mo (fr_X9_saysCell r7.2 r7.1 r9 e10) (by decide) (by decide))) (fr_X9_saysMove_143 r r9 x1 x2 h)
    · replace h := g_neg c1 h
      obtain ⟨r11, e12, h⟩ := g_bind h
      exact Kp.tr (Kp.tr Kp.rf (Kp.mo (fr_X9_says s 63 r11 e12) (by decide) (by decide))) (ih r11 x1 x2 x4 (x5 + 1) h)
set_option maxHeartbeats 4000000 in
theorem fr_X9_saysMove_95 (r : gS) : ∀ (s : gS) (x1 : Int32) (x2 : Int32) (t0 : Int32) , f_X9_saysMove_95 s x1 x2 t0 = some r → Kp [27, 28, 29] [22, 23, 24, 25, 26, 27, 28] s r := by
  intro s x1 x2 t0 h
  rw [f_X9_saysMove_95] at h
  exact Kp.tr Kp.rf (fr_X9_saysMove_100 r gφ s x1 x2 t0 0 h)
set_option maxHeartbeats 4000000 in
theorem fr_X9_saysMove_80 (r : gS) : ∀ (s : gS) (x1 : Int32) (x2 : Int32) , f_X9_saysMove_80 s x1 x2 = some r → Kp [27, 28, 29] [22, 23, 24, 25, 26, 27, 28] s r := by
  intro s x1 x2 h
  rw [f_X9_saysMove_80] at h
  rcases (Classical.em (x2 = 1)).symm with c1 | c1
  · replace h := g_neg c1 h
    exact Kp.tr Kp.rf (fr_X9_saysMove_95 r s x1 x2 0 h)
  · replace h := g_pos c1 h
    obtain ⟨r2, e3, h⟩ := g_bind h
    exact Kp.tr (Kp.tr Kp.rf (Kp.mo (fr_X9_found s x1 3 r2 e3) (by decide) (by decide))) (fr_X9_saysMove_95 r r2.2 x1 x2 r2.1 h)
set_option maxHeartbeats 4000000 in
theorem fr_X9_saysMove_60 (r : gS) : ∀ (s : gS) (x1 : Int32) (x2 : Int32) , f_X9_saysMove_60 s x1 x2 = some r → Kp [27, 28, 29] [22, 23, 24, 25, 26, 27, 28] s r := by
  intro s x1 x2 h
  rw [f_X9_saysMove_60] at h
  rcases (Classical.em (x2 = 1)).symm with c1 | c1
  · replace h := g_neg c1 h
    exact Kp.tr Kp.rf (fr_X9_saysMove_80 r s x1 x2 h)
  · replace h := g_pos c1 h
    obtain ⟨r2, e3, h⟩ := g_bind h
    rcases Classical.em (r2.1 ≤ 0) with c4 | c4
    · replace h := g_pos c4 h
      exact Kp.tr (Kp.tr Kp.rf (Kp.mo (fr_X9_found s x1 2 r2 e3) (by decide) (by decide))) (fr_X9_saysMove_80 r r2.2 x1 x2 h)
    · replace h := g_neg c4 h
      obtain ⟨r5, e6, h⟩ := g_bind h
      exact Kp.tr (Kp.tr (Kp.tr Kp.rf (Kp.mo (fr_X9_found s x1 2 r2 e3) (by decide) (by decide))) (Kp.mo (fr_X9_says r2.2 33 r5 e6) (by decide) (by decide))) (fr_X9_saysMove_80 r r5 x1 x2 h)
set_option maxHeartbeats 4000000 in
theorem fr_X9_saysMove_38 (r : gS) : ∀ (s : gS) (x1 : Int32) (x2 : Int32) , f_X9_saysMove_38 s x1 x2 = some r → Kp [27, 28, 29] [22, 23, 24, 25, 26, 27, 28] s r := by
  intro s x1 x2 h
  rw [f_X9_saysMove_38] at h
  obtain ⟨r1, e2, h⟩ := g_bind h
  rcases Classical.em (r1.1 ≤ 0) with c3 | c3
  · replace h := g_pos c3 h
    exact Kp.tr (Kp.tr Kp.rf (Kp.mo (fr_X9_found s x1 1 r1 e2) (by decide) (by decide))) (fr_X9_saysMove_60 r r1.2 x1 x2 h)
  · replace h := g_neg c3 h
    obtain ⟨r4, e5, h⟩ := g_bind h
    obtain ⟨r6, e7, h⟩ := g_bind h
    exact Kp.tr (Kp.tr (Kp.tr (Kp.tr Kp.rf (Kp.mo (fr_X9_found s x1 1 r1 e2) (by decide) (by decide))) (Kp.mo (fr_X9_says r1.2 43 r4 e5) (by decide) (by decide))) (Kp.mo (fr_X9_saysNumber r4 r1.1 r6 e7) (by decide) (by decide))) (fr_X9_saysMove_60 r r6 x1 x2 h)
set_option maxHeartbeats 4000000 in
theorem fr0_X9_saysMove (r : gS) : ∀ (s : gS) (x1 : Int32) (x2 : Int32) , f_X9_saysMove s x1 x2 = some r → Kp [27, 28, 29] [22, 23, 24, 25, 26, 27, 28] s r := by
  intro s x1 x2 h
  rw [f_X9_saysMove] at h
  obtain ⟨r1, e2, h⟩ := g_bind h
  obtain ⟨r3, e4, h⟩ := g_bind h
  obtain ⟨g5, h⟩ := g_guard h
  obtain ⟨r6, e7, h⟩ := g_bind h
  obtain ⟨r8, e9, h⟩ := g_bind h
  rcases Classical.em (r8.1 ≤ 0) with c10 | c10
  · replace h := g_pos c10 h
    exact Kp.tr (Kp.tr (Kp.tr (Kp.tr (Kp.tr Kp.rf (Kp.mo (fr_X9_saysNumber s x1 r1 e2) (by decide) (by decide))) (Kp.mo (fr_X9_says r1 46 r3 e4) (by decide) (by decide))) (Kp.mo (fr_X9_saysCell r3 (r3.2 20 (x1 - 1).toNatClampNeg) r6 e7) (by decide) (by decide))) (Kp.mo (fr_X9_found r6 x1 0 r8 e9) (by decide) (by decide))) (fr_X9_saysMove_38 r r8.2 x1 x2 h)
  · replace h := g_neg c10 h
    obtain ⟨r11, e12, h⟩ := g_bind h
    exact Kp.tr (Kp.tr (Kp.tr (Kp.tr (Kp.tr (Kp.tr Kp.rf (Kp.mo (fr_X9_saysNumber s x1 r1 e2) (by decide) (by decide))) (Kp.mo (fr_X9_says r1 46 r3 e4) (by decide) (by decide))) (Kp.mo (fr_X9_saysCell r3 (r3.2 20 (x1 - 1).toNatClampNeg) r6 e7) (by decide) (by decide))) (Kp.mo (fr_X9_found r6 x1 0 r8 e9) (by decide) (by decide))) (Kp.mo (fr_X9_says r8.2 35 r11 e12) (by decide) (by decide))) (fr_X9_saysMove_38 r r11 x1 x2 h)
theorem fr_X9_saysMove (s : gS) (x1 : Int32) (x2 : Int32) (r : gS) (h : f_X9_saysMove s x1 x2 = some r) : Kp [27, 28, 29] [22, 23, 24, 25, 26, 27, 28] s r := fr0_X9_saysMove r s x1 x2 h
set_option maxHeartbeats 4000000 in
theorem fr0_X9_words (r : Int32 × gS) : ∀ (s : gS) (x1 : Int32) (x2 : Int32) , f_X9_words s x1 x2 = some r → Kp [27, 28, 29] [22, 23, 24, 25, 26, 27, 28] s r.2 := by
  intro s x1 x2 h
  rw [f_X9_words] at h
  obtain ⟨r1, e2, h⟩ := g_bind h
  rcases Classical.em (r1 = 0) with c3 | c3
  · replace h := g_pos c3 h
    rw [← Option.some.inj h]
    exact Kp.rf
  · replace h := g_neg c3 h
    obtain ⟨r4, e5, h⟩ := g_bind h
    rcases (Classical.em (r4 = 0)).symm with c6 | c6
    · replace h := g_neg c6 h
      obtain ⟨r7, e8, h⟩ := g_bind h
      rw [← Option.some.inj h]
      exact (Kp.tr (Kp.ss (by decide) Kp.rf) (Kp.mo (fr_X9_saysMove (ss s 29 0) x1 x2 r7 e8) (by decide) (by decide)))
    · replace h := g_pos c6 h
      rw [← Option.some.inj h]
      exact Kp.rf
theorem fr_X9_words (s : gS) (x1 : Int32) (x2 : Int32) (r : Int32 × gS) (h : f_X9_words s x1 x2 = some r) : Kp [27, 28, 29] [22, 23, 24, 25, 26, 27, 28] s r.2 := fr0_X9_words r s x1 x2 h
set_option maxHeartbeats 4000000 in
theorem fr_X9_tale_37 (K18 : gS → Int32 → Int32 → Option (Int32 × gS)) (r : Int32 × gS) (hK18 : ∀ (s : gS) (x1 : Int32) (x2 : Int32) , K18 s x1 x2 = some r → Kp [27, 28, 29] [22, 23, 24, 25, 26, 27, 28] s r.2) : ∀ (s : gS) (x1 : Int32) (x2 : Int32) , f_X9_tale_37 K18 s x1 x2 = some r → Kp [27, 28, 29] [22, 23, 24, 25, 26, 27, 28] s r.2 := by
  intro s x1 x2 h
  rw [f_X9_tale_37] at h
  obtain ⟨r1, e2, h⟩ := g_bind h
  exact Kp.tr (Kp.tr Kp.rf (Kp.mo (fr_X9_saysMove s x2 x1 r1 e2) (by decide) (by decide))) (hK18 r1 x1 (x2 + 1) h)
set_option maxHeartbeats 4000000 in
theorem fr_X9_tale_18 (r : Int32 × gS) : ∀ (φ : Nat) (s : gS) (x1 : Int32) (x2 : Int32) , f_X9_tale_18 φ s x1 x2 = some r → Kp [27, 28, 29] [22, 23, 24, 25, 26, 27, 28] s r.2 := by
  intro φ
  induction φ with
  | zero =>
    intro s x1 x2 h
    exact absurd h (by intro h0; cases h0)
  | succ φ ih =>
    intro s x1 x2 h
    rw [f_X9_tale_18] at h
    rcases Classical.em ((s.1 23) < x2) with c1 | c1
    · replace h := g_pos c1 h
      rw [← Option.some.inj h]
      exact Kp.rf
    · replace h := g_neg c1 h
      rcases Classical.em (x2 ≤ 1) with c2 | c2
      · replace h := g_pos c2 h
        exact Kp.tr Kp.rf (fr_X9_tale_37 (f_X9_tale_18 φ) r (fun s x1 x2 h => ih s x1 x2 h) s x1 x2 h)
      · replace h := g_neg c2 h
        obtain ⟨r3, e4, h⟩ := g_bind h
        exact Kp.tr (Kp.tr Kp.rf (Kp.mo (fr_X9_says s 32 r3 e4) (by decide) (by decide))) (fr_X9_tale_37 (f_X9_tale_18 φ) r (fun s x1 x2 h => ih s x1 x2 h) r3 x1 x2 h)
set_option maxHeartbeats 4000000 in
theorem fr0_X9_tale (r : Int32 × gS) : ∀ (s : gS) (x1 : Int32) , f_X9_tale s x1 = some r → Kp [27, 28, 29] [22, 23, 24, 25, 26, 27, 28] s r.2 := by
  intro s x1 h
  rw [f_X9_tale] at h
  obtain ⟨r1, e2, h⟩ := g_bind h
  rcases (Classical.em (r1 = 0)).symm with c3 | c3
  · replace h := g_neg c3 h
    exact Kp.tr (Kp.ss (by decide) Kp.rf) (fr_X9_tale_18 r gφ (ss s 29 0) x1 1 h)
  · replace h := g_pos c3 h
    rw [← Option.some.inj h]
    exact Kp.rf
theorem fr_X9_tale (s : gS) (x1 : Int32) (r : Int32 × gS) (h : f_X9_tale s x1 = some r) : Kp [27, 28, 29] [22, 23, 24, 25, 26, 27, 28] s r.2 := fr0_X9_tale r s x1 h
set_option maxHeartbeats 4000000 in
theorem fr_X9_worth_18 (r : Int32 × gS) : ∀ (φ : Nat) (s : gS) (x1 : Int32) (x2 : Int32) (x3 : Int32) , f_X9_worth_18 φ s x1 x2 x3 = some r → Kp [27, 28] [22, 23, 24, 25, 26, 27] s r.2 := by
  intro φ
  induction φ with
  | zero =>
    intro s x1 x2 x3 h
    exact absurd h (by intro h0; cases h0)
  | succ φ ih =>
    intro s x1 x2 x3 h
    rw [f_X9_worth_18] at h
    rcases Classical.em (6 ≤ x3) with c1 | c1
    · replace h := g_pos c1 h
      rw [← Option.some.inj h]
      exact Kp.rf
    · replace h := g_neg c1 h
      obtain ⟨g2, h⟩ := g_guard h
      obtain ⟨r3, e4, h⟩ := g_bind h
      exact Kp.tr (Kp.tr Kp.rf (Kp.mo (fr_X9_found s x1 x3 r3 e4) (by decide) (by decide))) (ih r3.2 x1 (x2 + ((s.2 21 x3.toNatClampNeg) * r3.1)) (x3 + 1) h)
set_option maxHeartbeats 4000000 in
theorem fr0_X9_worth (r : Int32 × gS) : ∀ (s : gS) (x1 : Int32) , f_X9_worth s x1 = some r → Kp [27, 28] [22, 23, 24, 25, 26, 27] s r.2 := by
  intro s x1 h
  rw [f_X9_worth] at h
  obtain ⟨r1, e2, h⟩ := g_bind h
  rcases (Classical.em (r1 = 0)).symm with c3 | c3
  · replace h := g_neg c3 h
    exact Kp.tr Kp.rf (fr_X9_worth_18 r gφ s x1 0 0 h)
  · replace h := g_pos c3 h
    rw [← Option.some.inj h]
    exact Kp.rf
theorem fr_X9_worth (s : gS) (x1 : Int32) (r : Int32 × gS) (h : f_X9_worth s x1 = some r) : Kp [27, 28] [22, 23, 24, 25, 26, 27] s r.2 := fr0_X9_worth r s x1 h
set_option maxHeartbeats 4000000 in
theorem fr_X9_bytesOf_69 (r : Int32 × gS) : ∀ (s : gS) (x1 : Int32) (t0 : Int32) (t1 : Int32) , f_X9_bytesOf_69 s x1 t0 t1 = some r → Kp [27, 28] [22, 23, 24, 25, 26, 27] s r.2 := by
  intro s x1 t0 t1 h
  rw [f_X9_bytesOf_69] at h
  obtain ⟨r1, e2, h⟩ := g_bind h
  rcases Classical.em (r1.1 ≤ 0) with c3 | c3
  · replace h := g_pos c3 h
    rw [← Option.some.inj h]
    exact (Kp.tr Kp.rf (Kp.mo (fr_X9_found s x1 4 r1 e2) (by decide) (by decide)))
  · replace h := g_neg c3 h
    rw [← Option.some.inj h]
    exact (Kp.tr Kp.rf (Kp.mo (fr_X9_found s x1 4 r1 e2) (by decide) (by decide)))
set_option maxHeartbeats 4000000 in
theorem fr_X9_bytesOf_18 (r : Int32 × gS) : ∀ (s : gS) (x1 : Int32) (x2 : Int32) (t0 : Int32) , f_X9_bytesOf_18 s x1 x2 t0 = some r → Kp [27, 28] [22, 23, 24, 25, 26, 27] s r.2 := by
  intro s x1 x2 t0 h
  rw [f_X9_bytesOf_18] at h
  obtain ⟨r1, e2, h⟩ := g_bind h
  obtain ⟨r3, e4, h⟩ := g_bind h
  obtain ⟨r5, e6, h⟩ := g_bind h
  obtain ⟨r7, e8, h⟩ := g_bind h
  rcases (Classical.em (x2 = 0)).symm with c9 | c9
  · replace h := g_neg c9 h
    rcases Classical.em (x2 < 10) with c10 | c10
    · replace h := g_pos c10 h
      exact Kp.tr (Kp.tr (Kp.tr (Kp.tr (Kp.tr Kp.rf (Kp.mo (fr_X9_found s x1 0 r1 e2) (by decide) (by decide))) (Kp.mo (fr_X9_found r1.2 x1 2 r3 e4) (by decide) (by decide))) (Kp.mo (fr_X9_found r3.2 x1 3 r5 e6) (by decide) (by decide))) (Kp.mo (fr_X9_found r5.2 x1 5 r7 e8) (by decide) (by decide))) (fr_X9_bytesOf_69 r r7.2 x1 (((((t0 + 3) + r1.1) + r3.1) + r5.1) + r7.1) 2 h)
    · replace h := g_neg c10 h
      exact Kp.tr (Kp.tr (Kp.tr (Kp.tr (Kp.tr Kp.rf (Kp.mo (fr_X9_found s x1 0 r1 e2) (by decide) (by decide))) (Kp.mo (fr_X9_found r1.2 x1 2 r3 e4) (by decide) (by decide))) (Kp.mo (fr_X9_found r3.2 x1 3 r5 e6) (by decide) (by decide))) (Kp.mo (fr_X9_found r5.2 x1 5 r7 e8) (by decide) (by decide))) (fr_X9_bytesOf_69 r r7.2 x1 (((((t0 + 3) + r1.1) + r3.1) + r5.1) + r7.1) 3 h)
  · replace h := g_pos c9 h
    exact Kp.tr (Kp.tr (Kp.tr (Kp.tr (Kp.tr Kp.rf (Kp.mo (fr_X9_found s x1 0 r1 e2) (by decide) (by decide))) (Kp.mo (fr_X9_found r1.2 x1 2 r3 e4) (by decide) (by decide))) (Kp.mo (fr_X9_found r3.2 x1 3 r5 e6) (by decide) (by decide))) (Kp.mo (fr_X9_found r5.2 x1 5 r7 e8) (by decide) (by decide))) (fr_X9_bytesOf_69 r r7.2 x1 (((((t0 + 3) + r1.1) + r3.1) + r5.1) + r7.1) 0 h)
set_option maxHeartbeats 4000000 in
theorem fr0_X9_bytesOf (r : Int32 × gS) : ∀ (s : gS) (x1 : Int32) , f_X9_bytesOf s x1 = some r → Kp [27, 28] [22, 23, 24, 25, 26, 27] s r.2 := by
  intro s x1 h
  rw [f_X9_bytesOf] at h
  obtain ⟨r1, e2, h⟩ := g_bind h
  rcases Classical.em (x1 < 10) with c3 | c3
  · replace h := g_pos c3 h
    exact Kp.tr (Kp.tr Kp.rf (Kp.mo (fr_X9_found s x1 1 r1 e2) (by decide) (by decide))) (fr_X9_bytesOf_18 r r1.2 x1 r1.1 1 h)
  · replace h := g_neg c3 h
    exact Kp.tr (Kp.tr Kp.rf (Kp.mo (fr_X9_found s x1 1 r1 e2) (by decide) (by decide))) (fr_X9_bytesOf_18 r r1.2 x1 r1.1 2 h)
theorem fr_X9_bytesOf (s : gS) (x1 : Int32) (r : Int32 × gS) (h : f_X9_bytesOf s x1 = some r) : Kp [27, 28] [22, 23, 24, 25, 26, 27] s r.2 := fr0_X9_bytesOf r s x1 h
set_option maxHeartbeats 4000000 in
theorem fr_X9_weighs_81 (K7 : gS → Int32 → Option gS) (r : gS) (hK7 : ∀ (s : gS) (x1 : Int32) , K7 s x1 = some r → Kp [27, 28, 30] [22, 23, 24, 25, 26, 27, 29, 30, 31] s r) : ∀ (s : gS) (x1 : Int32) , f_X9_weighs_81 K7 s x1 = some r → Kp [27, 28, 30] [22, 23, 24, 25, 26, 27, 29, 30, 31] s r := by
  intro s x1 h
  rw [f_X9_weighs_81] at h
  exact Kp.tr Kp.rf (hK7 s (x1 + 1) h)
set_option maxHeartbeats 4000000 in
theorem fr_X9_weighs_7 (r : gS) : ∀ (φ : Nat) (s : gS) (x1 : Int32) , f_X9_weighs_7 φ s x1 = some r → Kp [27, 28, 30] [22, 23, 24, 25, 26, 27, 29, 30, 31] s r := by
  intro φ
  induction φ with
  | zero =>
    intro s x1 h
    exact absurd h (by intro h0; cases h0)
  | succ φ ih =>
    intro s x1 h
    rw [f_X9_weighs_7] at h
    rcases Classical.em ((s.1 23) < x1) with c1 | c1
    · replace h := g_pos c1 h
      rw [← Option.some.inj h]
      exact Kp.rf
    · replace h := g_neg c1 h
      rcases Classical.em (12 ≤ (s.1 30)) with c2 | c2
      · replace h := g_pos c2 h
        rw [← Option.some.inj h]
        exact Kp.rf
      · replace h := g_neg c2 h
        obtain ⟨r3, e4, h⟩ := g_bind h
        rcases (Classical.em (r3.1 = 0)).symm with c5 | c5
        · replace h := g_neg c5 h
          obtain ⟨g6, h⟩ := g_guard h
          obtain ⟨g7, h⟩ := g_guard h
          obtain ⟨r8, e9, h⟩ := g_bind h
          obtain ⟨g10, h⟩ := g_guard h
          exact Kp.tr (Kp.ss (by decide) (Kp.sa (by decide) (Kp.tr (Kp.sa (by decide) (Kp.sa (by decide) (Kp.tr Kp.rf (Kp.mo (fr_X9_worth s x1 r3 e4) (by decide) (by decide))))) (Kp.mo (fr_X9_bytesOf (sa (sa r3.2 29 ((r3.2.1 30).toNatClampNeg) x1) 30 ((r3.2.1 30).toNatClampNeg) r3.1) x1 r8 e9) (by decide) (by decide))))) (fr_X9_weighs_81 (f_X9_weighs_7 φ) r (fun s x1 h => ih s x1 h) (ss (sa r8.2 31 ((r3.2.1 30).toNatClampNeg) r8.1) 30 ((r8.2.1 30) + 1)) x1 h)
        · replace h := g_pos c5 h
          exact Kp.tr (Kp.tr Kp.rf (Kp.mo (fr_X9_worth s x1 r3 e4) (by decide) (by decide))) (fr_X9_weighs_81 (f_X9_weighs_7 φ) r (fun s x1 h => ih s x1 h) r3.2 x1 h)
set_option maxHeartbeats 4000000 in
theorem fr0_X9_weighs (r : gS) : ∀ (s : gS) , f_X9_weighs s = some r → Kp [27, 28, 30] [22, 23, 24, 25, 26, 27, 29, 30, 31] s r := by
  intro s h
  rw [f_X9_weighs] at h
  exact Kp.tr (Kp.ss (by decide) Kp.rf) (fr_X9_weighs_7 r gφ (ss s 30 0) 1 h)
theorem fr_X9_weighs (s : gS) (r : gS) (h : f_X9_weighs s = some r) : Kp [27, 28, 30] [22, 23, 24, 25, 26, 27, 29, 30, 31] s r := fr0_X9_weighs r s h
set_option maxHeartbeats 4000000 in
theorem fr_X9_chosen_214 (K179 : gS → Int32 → Int32 → Int32 → Option (Int32 × gS)) (r : Int32 × gS) (hK179 : ∀ (s : gS) (x2 : Int32) (x5 : Int32) (x6 : Int32) , K179 s x2 x5 x6 = some r → Kp [27, 28, 30] [22, 23, 24, 25, 26, 27, 29, 30, 31] s r.2) : ∀ (s : gS) (x2 : Int32) (x5 : Int32) (x6 : Int32) , f_X9_chosen_214 K179 s x2 x5 x6 = some r → Kp [27, 28, 30] [22, 23, 24, 25, 26, 27, 29, 30, 31] s r.2 := by
  intro s x2 x5 x6 h
  rw [f_X9_chosen_214] at h
  exact Kp.tr Kp.rf (hK179 s x2 x5 (x6 + 1) h)
set_option maxHeartbeats 4000000 in
theorem fr_X9_chosen_179 (r : Int32 × gS) : ∀ (φ : Nat) (s : gS) (x2 : Int32) (x5 : Int32) (x6 : Int32) , f_X9_chosen_179 φ s x2 x5 x6 = some r → Kp [27, 28, 30] [22, 23, 24, 25, 26, 27, 29, 30, 31] s r.2 := by
  intro φ
  induction φ with
  | zero =>
    intro s x2 x5 x6 h
    exact absurd h (by intro h0; cases h0)
  | succ φ ih =>
    intro s x2 x5 x6 h
    rw [f_X9_chosen_179] at h
    rcases Classical.em ((s.1 30) ≤ x6) with c1 | c1
    · replace h := g_pos c1 h
      rw [← Option.some.inj h]
      exact Kp.rf
    · replace h := g_neg c1 h
      rcases (Classical.em (((x2 >>> (x6 &&& 31)) &&& 1) = 1)).symm with c2 | c2
      · replace h := g_neg c2 h
        exact Kp.tr Kp.rf (fr_X9_chosen_214 (f_X9_chosen_179 φ) r (fun s x2 x5 x6 h => ih s x2 x5 x6 h) s x2 x5 x6 h)
      · replace h := g_pos c2 h
        obtain ⟨g3, h⟩ := g_guard h
        exact Kp.tr Kp.rf (fr_X9_chosen_214 (f_X9_chosen_179 φ) r (fun s x2 x5 x6 h => ih s x2 x5 x6 h) s x2 (x5 ||| (1 <<< (((s.2 29 x6.toNatClampNeg) - 1) &&& 31))) x6 h)
set_option maxHeartbeats 4000000 in
theorem fr_X9_chosen_167 (K27 : gS → Int32 → Int32 → Int32 → Int32 → Int32 → Option (Int32 × gS)) (r : Int32 × gS) (hK27 : ∀ (s : gS) (x1 : Int32) (x2 : Int32) (x3 : Int32) (x4 : Int32) (x5 : Int32) , K27 s x1 x2 x3 x4 x5 = some r → Kp [27, 28, 30] [22, 23, 24, 25, 26, 27, 29, 30, 31] s r.2) : ∀ (s : gS) (x1 : Int32) (x2 : Int32) (x3 : Int32) (x4 : Int32) (x5 : Int32) , f_X9_chosen_167 K27 s x1 x2 x3 x4 x5 = some r → Kp [27, 28, 30] [22, 23, 24, 25, 26, 27, 29, 30, 31] s r.2 := by
  intro s x1 x2 x3 x4 x5 h
  rw [f_X9_chosen_167] at h
  exact Kp.tr Kp.rf (hK27 s x1 x2 x3 x4 (x5 + 1) h)
set_option maxHeartbeats 4000000 in
theorem fr_X9_chosen_141 (K27 : gS → Int32 → Int32 → Int32 → Int32 → Int32 → Option (Int32 × gS)) (r : Int32 × gS) (hK27 : ∀ (s : gS) (x1 : Int32) (x2 : Int32) (x3 : Int32) (x4 : Int32) (x5 : Int32) , K27 s x1 x2 x3 x4 x5 = some r → Kp [27, 28, 30] [22, 23, 24, 25, 26, 27, 29, 30, 31] s r.2) : ∀ (s : gS) (x1 : Int32) (x2 : Int32) (x3 : Int32) (x4 : Int32) (x5 : Int32) (x6 : Int32) (x7 : Int32) (t0 : Int32) , f_X9_chosen_141 K27 s x1 x2 x3 x4 x5 x6 x7 t0 = some r → Kp [27, 28, 30] [22, 23, 24, 25, 26, 27, 29, 30, 31] s r.2 := by
  intro s x1 x2 x3 x4 x5 x6 x7 t0 h
  rw [f_X9_chosen_141] at h
  rcases Classical.em (x1 < x7) with c1 | c1
  · replace h := g_pos c1 h
    exact Kp.tr Kp.rf (fr_X9_chosen_167 K27 r hK27 s x1 x2 x3 x4 x5 h)
  · replace h := g_neg c1 h
    rcases (Classical.em (t0 = 0)).symm with c2 | c2
    · replace h := g_neg c2 h
      exact Kp.tr Kp.rf (fr_X9_chosen_167 K27 r hK27 s x1 x5 x6 x7 x5 h)
    · replace h := g_pos c2 h
      exact Kp.tr Kp.rf (fr_X9_chosen_167 K27 r hK27 s x1 x2 x3 x4 x5 h)
set_option maxHeartbeats 4000000 in
theorem fr_X9_chosen_136 (K27 : gS → Int32 → Int32 → Int32 → Int32 → Int32 → Option (Int32 × gS)) (r : Int32 × gS) (hK27 : ∀ (s : gS) (x1 : Int32) (x2 : Int32) (x3 : Int32) (x4 : Int32) (x5 : Int32) , K27 s x1 x2 x3 x4 x5 = some r → Kp [27, 28, 30] [22, 23, 24, 25, 26, 27, 29, 30, 31] s r.2) : ∀ (s : gS) (x1 : Int32) (x2 : Int32) (x3 : Int32) (x4 : Int32) (x5 : Int32) (x6 : Int32) (x7 : Int32) , f_X9_chosen_136 K27 s x1 x2 x3 x4 x5 x6 x7 = some r → Kp [27, 28, 30] [22, 23, 24, 25, 26, 27, 29, 30, 31] s r.2 := by
  intro s x1 x2 x3 x4 x5 x6 x7 h
  rw [f_X9_chosen_136] at h
  exact Kp.tr Kp.rf (fr_X9_chosen_141 K27 r hK27 s x1 x2 x3 x4 x5 x6 x7 1 h)
set_option maxHeartbeats 4000000 in
theorem fr_X9_chosen_140 (K27 : gS → Int32 → Int32 → Int32 → Int32 → Int32 → Option (Int32 × gS)) (r : Int32 × gS) (hK27 : ∀ (s : gS) (x1 : Int32) (x2 : Int32) (x3 : Int32) (x4 : Int32) (x5 : Int32) , K27 s x1 x2 x3 x4 x5 = some r → Kp [27, 28, 30] [22, 23, 24, 25, 26, 27, 29, 30, 31] s r.2) : ∀ (s : gS) (x1 : Int32) (x2 : Int32) (x3 : Int32) (x4 : Int32) (x5 : Int32) (x6 : Int32) (x7 : Int32) , f_X9_chosen_140 K27 s x1 x2 x3 x4 x5 x6 x7 = some r → Kp [27, 28, 30] [22, 23, 24, 25, 26, 27, 29, 30, 31] s r.2 := by
  intro s x1 x2 x3 x4 x5 x6 x7 h
  rw [f_X9_chosen_140] at h
  exact Kp.tr Kp.rf (fr_X9_chosen_141 K27 r hK27 s x1 x2 x3 x4 x5 x6 x7 0 h)
set_option maxHeartbeats 4000000 in
theorem fr_X9_chosen_95 (K27 : gS → Int32 → Int32 → Int32 → Int32 → Int32 → Option (Int32 × gS)) (K47 : gS → Int32 → Int32 → Int32 → Int32 → Int32 → Int32 → Int32 → Int32 → Option (Int32 × gS)) (r : Int32 × gS) (hK27 : ∀ (s : gS) (x1 : Int32) (x2 : Int32) (x3 : Int32) (x4 : Int32) (x5 : Int32) , K27 s x1 x2 x3 x4 x5 = some r → Kp [27, 28, 30] [22, 23, 24, 25, 26, 27, 29, 30, 31] s r.2) (hK47 : ∀ (s : gS) (x1 : Int32) (x2 : Int32) (x3 : Int32) (x4 : Int32) (x5 : Int32) (x6 : Int32) (x7 : Int32) (x8 : Int32) , K47 s x1 x2 x3 x4 x5 x6 x7 x8 = some r → Kp [27, 28, 30] [22, 23, 24, 25, 26, 27, 29, 30, 31] s r.2) : ∀ (s : gS) (x1 : Int32) (x2 : Int32) (x3 : Int32) (x4 : Int32) (x5 : Int32) (x6 : Int32) (x7 : Int32) (x8 : Int32) , f_X9_chosen_95 K27 K47 s x1 x2 x3 x4 x5 x6 x7 x8 = some r → Kp [27, 28, 30] [22, 23, 24, 25, 26, 27, 29, 30, 31] s r.2 := by
  intro s x1 x2 x3 x4 x5 x6 x7 x8 h
  rw [f_X9_chosen_95] at h
  exact Kp.tr Kp.rf (hK47 s x1 x2 x3 x4 x5 x6 x7 (x8 + 1) h)
set_option maxHeartbeats 4000000 in
theorem fr_X9_chosen_47 (K27 : gS → Int32 → Int32 → Int32 → Int32 → Int32 → Option (Int32 × gS)) (r : Int32 × gS) (hK27 : ∀ (s : gS) (x1 : Int32) (x2 : Int32) (x3 : Int32) (x4 : Int32) (x5 : Int32) , K27 s x1 x2 x3 x4 x5 = some r → Kp [27, 28, 30] [22, 23, 24, 25, 26, 27, 29, 30, 31] s r.2) : ∀ (φ : Nat) (s : gS) (x1 : Int32) (x2 : Int32) (x3 : Int32) (x4 : Int32) (x5 : Int32) (x6 : Int32) (x7 : Int32) (x8 : Int32) , f_X9_chosen_47 K27 φ s x1 x2 x3 x4 x5 x6 x7 x8 = some r → Kp [27, 28, 30] [22, 23, 24, 25, 26, 27, 29, 30, 31] s r.2 := by
  intro φ
  induction φ with
  | zero =>
    intro s x1 x2 x3 x4 x5 x6 x7 x8 h
    exact absurd h (by intro h0; cases h0)
  | succ φ ih =>
    intro s x1 x2 x3 x4 x5 x6 x7 x8 h
    rw [f_X9_chosen_47] at h
    rcases Classical.em ((s.1 30) ≤ x8) with c1 | c1
    · replace h := g_pos c1 h
      rcases Classical.em (x3 < x6) with c2 | c2
      · replace h := g_pos c2 h
        exact Kp.tr Kp.rf (fr_X9_chosen_136 K27 r hK27 s x1 x2 x3 x4 x5 x6 x7 h)
      · replace h := g_neg c2 h
        rcases (Classical.em (x6 = x3)).symm with c3 | c3
        · replace h := g_neg c3 h
          exact Kp.tr Kp.rf (fr_X9_chosen_140 K27 r hK27 s x1 x2 x3 x4 x5 x6 x7 h)
        · replace h := g_pos c3 h
          rcases Classical.em (x7 < x4) with c4 | c4
          · replace h := g_pos c4 h
            exact Kp.tr Kp.rf (fr_X9_chosen_136 K27 r hK27 s x1 x2 x3 x4 x5 x6 x7 h)
          · replace h := g_neg c4 h
            rcases (Classical.em (x7 = x4)).symm with c5 | c5
            · replace h := g_neg c5 h
              exact Kp.tr Kp.rf (fr_X9_chosen_140 K27 r hK27 s x1 x2 x3 x4 x5 x6 x7 h)
            · replace h := g_pos c5 h
              obtain ⟨r6, e7, h⟩ := g_bind h
              rcases Classical.em (r6 = 0) with c8 | c8
              · replace h := g_pos c8 h
                exact Kp.tr Kp.rf (fr_X9_chosen_140 K27 r hK27 s x1 x2 x3 x4 x5 x6 x7 h)
              · replace h := g_neg c8 h
                exact Kp.tr Kp.rf (fr_X9_chosen_136 K27 r hK27 s x1 x2 x3 x4 x5 x6 x7 h)
    · replace h := g_neg c1 h
      rcases (Classical.em (((x5 >>> (x8 &&& 31)) &&& 1) = 0)).symm with c9 | c9
      · replace h := g_neg c9 h
        obtain ⟨g10, h⟩ := g_guard h
        obtain ⟨g11, h⟩ := g_guard h
        exact Kp.tr Kp.rf (fr_X9_chosen_95 K27 (f_X9_chosen_47 K27 φ) r hK27 (fun s x1 x2 x3 x4 x5 x6 x7 x8 h => ih s x1 x2 x3 x4 x5 x6 x7 x8 h) s x1 x2 x3 x4 x5 (x6 + (s.2 30 x8.toNatClampNeg)) ((x7 + (s.2 31 x8.toNatClampNeg)) + 1) x8 h)
      · replace h := g_pos c9 h
        exact Kp.tr Kp.rf (fr_X9_chosen_95 K27 (f_X9_chosen_47 K27 φ) r hK27 (fun s x1 x2 x3 x4 x5 x6 x7 x8 h => ih s x1 x2 x3 x4 x5 x6 x7 x8 h) s x1 x2 x3 x4 x5 x6 x7 x8 h)
set_option maxHeartbeats 4000000 in
theorem fr_X9_chosen_27 (r : Int32 × gS) : ∀ (φ : Nat) (s : gS) (x1 : Int32) (x2 : Int32) (x3 : Int32) (x4 : Int32) (x5 : Int32) , f_X9_chosen_27 φ s x1 x2 x3 x4 x5 = some r → Kp [27, 28, 30] [22, 23, 24, 25, 26, 27, 29, 30, 31] s r.2 := by
  intro φ
  induction φ with
  | zero =>
    intro s x1 x2 x3 x4 x5 h
    exact absurd h (by intro h0; cases h0)
  | succ φ ih =>
    intro s x1 x2 x3 x4 x5 h
    rw [f_X9_chosen_27] at h
    rcases Classical.em ((1 <<< ((s.1 30) &&& 31)) ≤ x5) with c1 | c1
    · replace h := g_pos c1 h
      exact Kp.tr Kp.rf (fr_X9_chosen_179 r gφ s x2 0 0 h)
    · replace h := g_neg c1 h
      exact Kp.tr Kp.rf (fr_X9_chosen_47 (f_X9_chosen_27 φ) r (fun s x1 x2 x3 x4 x5 h => ih s x1 x2 x3 x4 x5 h) gφ s x1 x2 x3 x4 x5 0 (-1 : Int32) 0 h)
set_option maxHeartbeats 4000000 in
theorem fr0_X9_chosen (r : Int32 × gS) : ∀ (s : gS) (x1 : Int32) , f_X9_chosen s x1 = some r → Kp [27, 28, 30] [22, 23, 24, 25, 26, 27, 29, 30, 31] s r.2 := by
  intro s x1 h
  rw [f_X9_chosen] at h
  obtain ⟨r1, e2, h⟩ := g_bind h
  rcases (Classical.em (r1 = 0)).symm with c3 | c3
  · replace h := g_neg c3 h
    obtain ⟨r4, e5, h⟩ := g_bind h
    exact Kp.tr (Kp.tr Kp.rf (Kp.mo (fr_X9_weighs s r4 e5) (by decide) (by decide))) (fr_X9_chosen_27 r gφ r4 x1 0 0 0 1 h)
  · replace h := g_pos c3 h
    rw [← Option.some.inj h]
    exact Kp.rf
theorem fr_X9_chosen (s : gS) (x1 : Int32) (r : Int32 × gS) (h : f_X9_chosen s x1 = some r) : Kp [27, 28, 30] [22, 23, 24, 25, 26, 27, 29, 30, 31] s r.2 := fr0_X9_chosen r s x1 h
set_option maxHeartbeats 4000000 in
theorem fr_X9_types_2 (r : gS) : ∀ (φ : Nat) (s : gS) (x1 : Int32) (x2 : Int32) , f_X9_types_2 φ s x1 x2 = some r → Kp [31] [32] s r := by
  intro φ
  induction φ with
  | zero =>
    intro s x1 x2 h
    exact absurd h (by intro h0; cases h0)
  | succ φ ih =>
    intro s x1 x2 h
    rw [f_X9_types_2] at h
    rcases Classical.em (x2 < 0) with c1 | c1
    · replace h := g_pos c1 h
      rw [← Option.some.inj h]
      exact Kp.rf
    · replace h := g_neg c1 h
      obtain ⟨g2, h⟩ := g_guard h
      exact Kp.tr (Kp.ss (by decide) (Kp.sa (by decide) Kp.rf)) (ih (ss (sa s 32 ((s.1 31).toNatClampNeg) (((x1 >>> ((8 * x2) &&& 31)).toInt8.toInt32).toInt8.toInt32)) 31 ((s.1 31) + 1)) x1 (x2 + (-1 : Int32)) h)
set_option maxHeartbeats 4000000 in
theorem fr0_X9_types (r : gS) : ∀ (s : gS) (x1 : Int32) , f_X9_types s x1 = some r → Kp [31] [32] s r := by
  intro s x1 h
  rw [f_X9_types] at h
  exact Kp.tr Kp.rf (fr_X9_types_2 r gφ s x1 3 h)
theorem fr_X9_types (s : gS) (x1 : Int32) (r : gS) (h : f_X9_types s x1 = some r) : Kp [31] [32] s r := fr0_X9_types r s x1 h
set_option maxHeartbeats 4000000 in
theorem fr0_X9_feed (r : Int32 × gS) : ∀ (s : gS) (x1 : Int32) (x2 : Int32) (x3 : Int32) (x4 : Int32) (x5 : Int32) , f_X9_feed s x1 x2 x3 x4 x5 = some r → Kp [31] [32] s r.2 := by
  intro s x1 x2 x3 x4 x5 h
  rw [f_X9_feed] at h
  rcases Classical.em (((s.1 31) + 20) ≤ 120) with c1 | c1
  · replace h := g_pos c1 h
    obtain ⟨r2, e3, h⟩ := g_bind h
    obtain ⟨r4, e5, h⟩ := g_bind h
    obtain ⟨r6, e7, h⟩ := g_bind h
    obtain ⟨r8, e9, h⟩ := g_bind h
    obtain ⟨r10, e11, h⟩ := g_bind h
    rw [← Option.some.inj h]
    exact (Kp.tr (Kp.tr (Kp.tr (Kp.tr (Kp.tr Kp.rf (Kp.mo (fr_X9_types s x1 r2 e3) (by decide) (by decide))) (Kp.mo (fr_X9_types r2 x2 r4 e5) (by decide) (by decide))) (Kp.mo (fr_X9_types r4 x3 r6 e7) (by decide) (by decide))) (Kp.mo (fr_X9_types r6 x4 r8 e9) (by decide) (by decide))) (Kp.mo (fr_X9_types r8 x5 r10 e11) (by decide) (by decide)))
  · replace h := g_neg c1 h
    rw [← Option.some.inj h]
    exact Kp.rf
theorem fr_X9_feed (s : gS) (x1 : Int32) (x2 : Int32) (x3 : Int32) (x4 : Int32) (x5 : Int32) (r : Int32 × gS) (h : f_X9_feed s x1 x2 x3 x4 x5 = some r) : Kp [31] [32] s r.2 := fr0_X9_feed r s x1 x2 x3 x4 x5 h
set_option maxHeartbeats 4000000 in
theorem fr_X9_readsNumber_59 (r : Int32 × gS) : ∀ (s : gS) (x1 : Int32) , f_X9_readsNumber_59 s x1 = some r → Kp [32] [] s r.2 := by
  intro s x1 h
  rw [f_X9_readsNumber_59] at h
  obtain ⟨r1, e2, h⟩ := g_bind h
  rcases (Classical.em (r1 = (48 + (x1 - x1 / 10 * 10)))).symm with c3 | c3
  · replace h := g_neg c3 h
    rw [← Option.some.inj h]
    exact Kp.rf
  · replace h := g_pos c3 h
    obtain ⟨r4, e5, h⟩ := g_bind h
    rcases Classical.em (r4 = 46) with c6 | c6
    · replace h := g_pos c6 h
      rw [← Option.some.inj h]
      exact (Kp.ss (by decide) Kp.rf)
    · replace h := g_neg c6 h
      rw [← Option.some.inj h]
      exact Kp.rf
set_option maxHeartbeats 4000000 in
theorem fr0_X9_readsNumber (r : Int32 × gS) : ∀ (s : gS) , f_X9_readsNumber s = some r → Kp [32] [] s r.2 := by
  intro s h
  rw [f_X9_readsNumber] at h
  obtain ⟨r1, e2, h⟩ := g_bind h
  obtain ⟨r3, e4, h⟩ := g_bind h
  rcases (Classical.em (r3 = 0)).symm with c5 | c5
  · replace h := g_neg c5 h
    rcases Classical.em (((s.1 23) + 1) < 10) with c6 | c6
    · replace h := g_pos c6 h
      exact Kp.tr Kp.rf (fr_X9_readsNumber_59 r s ((s.1 23) + 1) h)
    · replace h := g_neg c6 h
      obtain ⟨r7, e8, h⟩ := g_bind h
      rcases Classical.em (r7 = (48 + (((s.1 23) + 1) / 10))) with c9 | c9
      · replace h := g_pos c9 h
        exact Kp.tr (Kp.ss (by decide) Kp.rf) (fr_X9_readsNumber_59 r (ss s 32 ((s.1 32) + 1)) ((s.1 23) + 1) h)
      · replace h := g_neg c9 h
        rw [← Option.some.inj h]
        exact Kp.rf
  · replace h := g_pos c5 h
    rw [← Option.some.inj h]
    exact Kp.rf
theorem fr_X9_readsNumber (s : gS) (r : Int32 × gS) (h : f_X9_readsNumber s = some r) : Kp [32] [] s r.2 := fr0_X9_readsNumber r s h
set_option maxHeartbeats 4000000 in
theorem fr_X9_readsSigns_158 (K2 : gS → Int32 → Option (Int32 × gS)) (r : Int32 × gS) (hK2 : ∀ (s : gS) (x1 : Int32) , K2 s x1 = some r → Kp [32] [] s r.2) : ∀ (s : gS) (x1 : Int32) , f_X9_readsSigns_158 K2 s x1 = some r → Kp [32] [] s r.2 := by
  intro s x1 h
  rw [f_X9_readsSigns_158] at h
  exact Kp.tr Kp.rf (hK2 s x1 h)
set_option maxHeartbeats 4000000 in
theorem fr_X9_readsSigns_122 (K2 : gS → Int32 → Option (Int32 × gS)) (r : Int32 × gS) (hK2 : ∀ (s : gS) (x1 : Int32) , K2 s x1 = some r → Kp [32] [] s r.2) : ∀ (s : gS) (x1 : Int32) (t1 : Int32) (t2 : Int32) , f_X9_readsSigns_122 K2 s x1 t1 t2 = some r → Kp [32] [] s r.2 := by
  intro s x1 t1 t2 h
  rw [f_X9_readsSigns_122] at h
  exact Kp.tr (Kp.ss (by decide) Kp.rf) (fr_X9_readsSigns_158 K2 r hK2 (ss s 32 (t1 + t2)) x1 h)
set_option maxHeartbeats 4000000 in
theorem fr_X9_readsSigns_56 (K2 : gS → Int32 → Option (Int32 × gS)) (r : Int32 × gS) (hK2 : ∀ (s : gS) (x1 : Int32) , K2 s x1 = some r → Kp [32] [] s r.2) : ∀ (s : gS) (x2 : Int32) (t0 : Int32) , f_X9_readsSigns_56 K2 s x2 t0 = some r → Kp [32] [] s r.2 := by
  intro s x2 t0 h
  rw [f_X9_readsSigns_56] at h
  rcases (Classical.em (t0 = 0)).symm with c1 | c1
  · replace h := g_neg c1 h
    rcases (Classical.em (x2 = 43)).symm with c2 | c2
    · replace h := g_neg c2 h
      rcases (Classical.em (x2 = 42)).symm with c3 | c3
      · replace h := g_neg c3 h
        exact Kp.tr (Kp.ss (by decide) Kp.rf) (fr_X9_readsSigns_158 K2 r hK2 (ss s 32 ((s.1 32) + 1)) t0 h)
      · replace h := g_pos c3 h
        obtain ⟨r4, e5, h⟩ := g_bind h
        rcases (Classical.em (r4 = 0)).symm with c6 | c6
        · replace h := g_neg c6 h
          exact Kp.tr (Kp.ss (by decide) (Kp.ss (by decide) Kp.rf)) (fr_X9_readsSigns_158 K2 r hK2 (ss (ss s 32 ((s.1 32) + 1)) 32 (((s.1 32) + 1) + 2)) t0 h)
        · replace h := g_pos c6 h
          rw [← Option.some.inj h]
          exact (Kp.ss (by decide) Kp.rf)
    · replace h := g_pos c2 h
      obtain ⟨r7, e8, h⟩ := g_bind h
      obtain ⟨r9, e10, h⟩ := g_bind h
      rcases (Classical.em (r9 = 0)).symm with c11 | c11
      · replace h := g_neg c11 h
        obtain ⟨r12, e13, h⟩ := g_bind h
        obtain ⟨r14, e15, h⟩ := g_bind h
        rcases Classical.em (r14 = 0) with c16 | c16
        · replace h := g_pos c16 h
          exact Kp.tr (Kp.ss (by decide) Kp.rf) (fr_X9_readsSigns_122 K2 r hK2 (ss s 32 ((s.1 32) + 1)) t0 ((s.1 32) + 1) 1 h)
        · replace h := g_neg c16 h
          exact Kp.tr (Kp.ss (by decide) Kp.rf) (fr_X9_readsSigns_122 K2 r hK2 (ss s 32 ((s.1 32) + 1)) t0 ((s.1 32) + 1) 2 h)
      · replace h := g_pos c11 h
        rw [← Option.some.inj h]
        exact (Kp.ss (by decide) Kp.rf)
  · replace h := g_pos c1 h
    exact Kp.tr Kp.rf (hK2 s t0 h)
set_option maxHeartbeats 4000000 in
theorem fr_X9_readsSigns_51 (K2 : gS → Int32 → Option (Int32 × gS)) (r : Int32 × gS) (hK2 : ∀ (s : gS) (x1 : Int32) , K2 s x1 = some r → Kp [32] [] s r.2) : ∀ (s : gS) (x2 : Int32) , f_X9_readsSigns_51 K2 s x2 = some r → Kp [32] [] s r.2 := by
  intro s x2 h
  rw [f_X9_readsSigns_51] at h
  exact Kp.tr Kp.rf (fr_X9_readsSigns_56 K2 r hK2 s x2 1 h)
set_option maxHeartbeats 4000000 in
theorem fr_X9_readsSigns_2 (r : Int32 × gS) : ∀ (φ : Nat) (s : gS) (x1 : Int32) , f_X9_readsSigns_2 φ s x1 = some r → Kp [32] [] s r.2 := by
  intro φ
  induction φ with
  | zero =>
    intro s x1 h
    exact absurd h (by intro h0; cases h0)
  | succ φ ih =>
    intro s x1 h
    rw [f_X9_readsSigns_2] at h
    rcases Classical.em (x1 = 0) with c1 | c1
    · replace h := g_pos c1 h
      rw [← Option.some.inj h]
      exact Kp.rf
    · replace h := g_neg c1 h
      obtain ⟨r2, e3, h⟩ := g_bind h
      rcases Classical.em (r2 = 35) with c4 | c4
      · replace h := g_pos c4 h
        exact Kp.tr Kp.rf (fr_X9_readsSigns_51 (f_X9_readsSigns_2 φ) r (fun s x1 h => ih s x1 h) s r2 h)
      · replace h := g_neg c4 h
        rcases Classical.em (r2 = 43) with c5 | c5
        · replace h := g_pos c5 h
          exact Kp.tr Kp.rf (fr_X9_readsSigns_51 (f_X9_readsSigns_2 φ) r (fun s x1 h => ih s x1 h) s r2 h)
        · replace h := g_neg c5 h
          rcases Classical.em (r2 = 33) with c6 | c6
          · replace h := g_pos c6 h
            exact Kp.tr Kp.rf (fr_X9_readsSigns_51 (f_X9_readsSigns_2 φ) r (fun s x1 h => ih s x1 h) s r2 h)
          · replace h := g_neg c6 h
            rcases Classical.em (r2 = 63) with c7 | c7
            · replace h := g_pos c7 h
              exact Kp.tr Kp.rf (fr_X9_readsSigns_51 (f_X9_readsSigns_2 φ) r (fun s x1 h => ih s x1 h) s r2 h)
            · replace h := g_neg c7 h
              rcases Classical.em (r2 = 42) with c8 | c8
              · replace h := g_pos c8 h
                exact Kp.tr Kp.rf (fr_X9_readsSigns_51 (f_X9_readsSigns_2 φ) r (fun s x1 h => ih s x1 h) s r2 h)
              · replace h := g_neg c8 h
                rcases (Classical.em (r2 = 61)).symm with c9 | c9
                · replace h := g_neg c9 h
                  exact Kp.tr Kp.rf (fr_X9_readsSigns_56 (f_X9_readsSigns_2 φ) r (fun s x1 h => ih s x1 h) s r2 0 h)
                · replace h := g_pos c9 h
                  exact Kp.tr Kp.rf (fr_X9_readsSigns_51 (f_X9_readsSigns_2 φ) r (fun s x1 h => ih s x1 h) s r2 h)
set_option maxHeartbeats 4000000 in
theorem fr0_X9_readsSigns (r : Int32 × gS) : ∀ (s : gS) , f_X9_readsSigns s = some r → Kp [32] [] s r.2 := by
  intro s h
  rw [f_X9_readsSigns] at h
  exact Kp.tr Kp.rf (fr_X9_readsSigns_2 r gφ s 1 h)
theorem fr_X9_readsSigns (s : gS) (r : Int32 × gS) (h : f_X9_readsSigns s = some r) : Kp [32] [] s r.2 := fr0_X9_readsSigns r s h
set_option maxHeartbeats 4000000 in
theorem fr_X9_readsMove_89 (r : Int32 × gS) : ∀ (s : gS) (x1 : Int32) (x2 : Int32) , f_X9_readsMove_89 s x1 x2 = some r → Kp [23, 27, 28, 32] [20, 22, 27] s r.2 := by
  intro s x1 x2 h
  rw [f_X9_readsMove_89] at h
  rcases Classical.em ((s.1 20) ≤ x1) with c1 | c1
  · replace h := g_pos c1 h
    rw [← Option.some.inj h]
    exact Kp.rf
  · replace h := g_neg c1 h
    rcases Classical.em (x2 < (s.1 21)) with c2 | c2
    · replace h := g_pos c2 h
      obtain ⟨r3, e4, h⟩ := g_bind h
      rcases Classical.em (r3.1 = (-1 : Int32)) with c5 | c5
      · replace h := g_pos c5 h
        rw [← Option.some.inj h]
        exact (Kp.tr Kp.rf (Kp.mo (fr_X9_play s (((s.1 20) * x2) + x1) r3 e4) (by decide) (by decide)))
      · replace h := g_neg c5 h
        rw [← Option.some.inj h]
        exact (Kp.tr Kp.rf (Kp.mo (fr_X9_play s (((s.1 20) * x2) + x1) r3 e4) (by decide) (by decide)))
    · replace h := g_neg c2 h
      rw [← Option.some.inj h]
      exact Kp.rf
set_option maxHeartbeats 4000000 in
theorem fr0_X9_readsMove (r : Int32 × gS) : ∀ (s : gS) , f_X9_readsMove s = some r → Kp [23, 27, 28, 32] [20, 22, 27] s r.2 := by
  intro s h
  rw [f_X9_readsMove] at h
  obtain ⟨r1, e2, h⟩ := g_bind h
  rcases Classical.em (r1.1 = 0) with c3 | c3
  · replace h := g_pos c3 h
    rw [← Option.some.inj h]
    exact (Kp.tr Kp.rf (Kp.mo (fr_X9_readsNumber s r1 e2) (by decide) (by decide)))
  · replace h := g_neg c3 h
    obtain ⟨r4, e5, h⟩ := g_bind h
    rcases (Classical.em (r4 = 0)).symm with c6 | c6
    · replace h := g_neg c6 h
      obtain ⟨r7, e8, h⟩ := g_bind h
      obtain ⟨r9, e10, h⟩ := g_bind h
      obtain ⟨r11, e12, h⟩ := g_bind h
      rcases Classical.em (r11.1 = 0) with c13 | c13
      · replace h := g_pos c13 h
        rw [← Option.some.inj h]
        exact (Kp.tr (Kp.ss (by decide) (Kp.tr Kp.rf (Kp.mo (fr_X9_readsNumber s r1 e2) (by decide) (by decide)))) (Kp.mo (fr_X9_readsSigns (ss r1.2 32 ((r1.2.1 32) + 2)) r11 e12) (by decide) (by decide)))
      · replace h := g_neg c13 h
        rcases Classical.em ((r11.2.1 33) ≤ (r11.2.1 32)) with c14 | c14
        · replace h := g_pos c14 h
          exact Kp.tr (Kp.tr (Kp.ss (by decide) (Kp.tr Kp.rf (Kp.mo (fr_X9_readsNumber s r1 e2) (by decide) (by decide)))) (Kp.mo (fr_X9_readsSigns (ss r1.2 32 ((r1.2.1 32) + 2)) r11 e12) (by decide) (by decide))) (fr_X9_readsMove_89 r r11.2 (r7 - 97) (r9 - 49) h)
        · replace h := g_neg c14 h
          obtain ⟨r15, e16, h⟩ := g_bind h
          rcases Classical.em (r15 = 32) with c17 | c17
          · replace h := g_pos c17 h
            exact Kp.tr (Kp.tr (Kp.ss (by decide) (Kp.tr Kp.rf (Kp.mo (fr_X9_readsNumber s r1 e2) (by decide) (by decide)))) (Kp.mo (fr_X9_readsSigns (ss r1.2 32 ((r1.2.1 32) + 2)) r11 e12) (by decide) (by decide))) (fr_X9_readsMove_89 r r11.2 (r7 - 97) (r9 - 49) h)
          · replace h := g_neg c17 h
            rw [← Option.some.inj h]
            exact (Kp.tr (Kp.ss (by decide) (Kp.tr Kp.rf (Kp.mo (fr_X9_readsNumber s r1 e2) (by decide) (by decide)))) (Kp.mo (fr_X9_readsSigns (ss r1.2 32 ((r1.2.1 32) + 2)) r11 e12) (by decide) (by decide)))
    · replace h := g_pos c6 h
      rw [← Option.some.inj h]
      exact (Kp.tr Kp.rf (Kp.mo (fr_X9_readsNumber s r1 e2) (by decide) (by decide)))
theorem fr_X9_readsMove (s : gS) (r : Int32 × gS) (h : f_X9_readsMove s = some r) : Kp [23, 27, 28, 32] [20, 22, 27] s r.2 := fr0_X9_readsMove r s h
set_option maxHeartbeats 4000000 in
theorem fr_X9_read_105 (K41 : gS → Int32 → Int32 → Option (Int32 × gS)) (r : Int32 × gS) (hK41 : ∀ (s : gS) (x2 : Int32) (x3 : Int32) , K41 s x2 x3 = some r → Kp [23, 27, 28, 31, 32, 33, 34] [20, 22, 27] s r.2) : ∀ (s : gS) (x2 : Int32) (t0 : Int32) , f_X9_read_105 K41 s x2 t0 = some r → Kp [23, 27, 28, 31, 32, 33, 34] [20, 22, 27] s r.2 := by
  intro s x2 t0 h
  rw [f_X9_read_105] at h
  exact Kp.tr (Kp.ss (by decide) Kp.rf) (hK41 (ss s 32 ((s.1 32) + 1)) x2 t0 h)
set_option maxHeartbeats 4000000 in
theorem fr_X9_read_86 (K41 : gS → Int32 → Int32 → Option (Int32 × gS)) (r : Int32 × gS) (hK41 : ∀ (s : gS) (x2 : Int32) (x3 : Int32) , K41 s x2 x3 = some r → Kp [23, 27, 28, 31, 32, 33, 34] [20, 22, 27] s r.2) : ∀ (s : gS) (x2 : Int32) (t1 : Int32) , f_X9_read_86 K41 s x2 t1 = some r → Kp [23, 27, 28, 31, 32, 33, 34] [20, 22, 27] s r.2 := by
  intro s x2 t1 h
  rw [f_X9_read_86] at h
  rcases Classical.em ((s.1 33) ≤ (s.1 32)) with c1 | c1
  · replace h := g_pos c1 h
    exact Kp.tr (Kp.ss (by decide) Kp.rf) (fr_X9_read_105 K41 r hK41 (ss s 34 t1) x2 0 h)
  · replace h := g_neg c1 h
    exact Kp.tr (Kp.ss (by decide) Kp.rf) (fr_X9_read_105 K41 r hK41 (ss s 34 t1) x2 1 h)
set_option maxHeartbeats 4000000 in
theorem fr_X9_read_41 (r : Int32 × gS) : ∀ (φ : Nat) (s : gS) (x2 : Int32) (x3 : Int32) , f_X9_read_41 φ s x2 x3 = some r → Kp [23, 27, 28, 31, 32, 33, 34] [20, 22, 27] s r.2 := by
  intro φ
  induction φ with
  | zero =>
    intro s x2 x3 h
    exact absurd h (by intro h0; cases h0)
  | succ φ ih =>
    intro s x2 x3 h
    rw [f_X9_read_41] at h
    rcases Classical.em (x3 = 0) with c1 | c1
    · replace h := g_pos c1 h
      rw [← Option.some.inj h]
      exact (Kp.ss (by decide) Kp.rf)
    · replace h := g_neg c1 h
      obtain ⟨r2, e3, h⟩ := g_bind h
      rcases (Classical.em (r2.1 = 0)).symm with c4 | c4
      · replace h := g_neg c4 h
        rcases Classical.em ((r2.2.1 33) ≤ (r2.2.1 32)) with c5 | c5
        · replace h := g_pos c5 h
          exact Kp.tr (Kp.tr Kp.rf (Kp.mo (fr_X9_readsMove s r2 e3) (by decide) (by decide))) (fr_X9_read_86 (f_X9_read_41 φ) r (fun s x2 x3 h => ih s x2 x3 h) r2.2 (x2 + 1) (r2.2.1 33) h)
        · replace h := g_neg c5 h
          exact Kp.tr (Kp.tr Kp.rf (Kp.mo (fr_X9_readsMove s r2 e3) (by decide) (by decide))) (fr_X9_read_86 (f_X9_read_41 φ) r (fun s x2 x3 h => ih s x2 x3 h) r2.2 (x2 + 1) ((r2.2.1 32) + 1) h)
      · replace h := g_pos c4 h
        exact Kp.tr (Kp.tr Kp.rf (Kp.mo (fr_X9_readsMove s r2 e3) (by decide) (by decide))) (ih r2.2 x2 r2.1 h)
set_option maxHeartbeats 4000000 in
theorem fr_X9_read_40 (r : Int32 × gS) : ∀ (s : gS) (x2 : Int32) (t0 : Int32) , f_X9_read_40 s x2 t0 = some r → Kp [23, 27, 28, 31, 32, 33, 34] [20, 22, 27] s r.2 := by
  intro s x2 t0 h
  rw [f_X9_read_40] at h
  exact Kp.tr Kp.rf (fr_X9_read_41 r gφ s x2 t0 h)
set_option maxHeartbeats 4000000 in
theorem fr0_X9_read (r : Int32 × gS) : ∀ (s : gS) (x1 : Int32) , f_X9_read s x1 = some r → Kp [23, 27, 28, 31, 32, 33, 34] [20, 22, 27] s r.2 := by
  intro s x1 h
  rw [f_X9_read] at h
  rcases Classical.em (x1 < 0) with c1 | c1
  · replace h := g_pos c1 h
    rw [← Option.some.inj h]
    exact Kp.rf
  · replace h := g_neg c1 h
    rcases Classical.em (x1 ≤ (s.1 31)) with c2 | c2
    · replace h := g_pos c2 h
      rcases Classical.em (x1 ≤ 0) with c3 | c3
      · replace h := g_pos c3 h
        exact Kp.tr (Kp.ss (by decide) (Kp.ss (by decide) (Kp.ss (by decide) Kp.rf))) (fr_X9_read_40 r (ss (ss (ss s 33 x1) 32 0) 34 0) 0 0 h)
      · replace h := g_neg c3 h
        exact Kp.tr (Kp.ss (by decide) (Kp.ss (by decide) (Kp.ss (by decide) Kp.rf))) (fr_X9_read_40 r (ss (ss (ss s 33 x1) 32 0) 34 0) 0 1 h)
    · replace h := g_neg c2 h
      rw [← Option.some.inj h]
      exact Kp.rf
theorem fr_X9_read (s : gS) (x1 : Int32) (r : Int32 × gS) (h : f_X9_read s x1 = some r) : Kp [23, 27, 28, 31, 32, 33, 34] [20, 22, 27] s r.2 := fr0_X9_read r s x1 h
set_option maxHeartbeats 4000000 in
theorem fr0_X9_lookFar (r : Int32 × gS) : ∀ (s : gS) (x1 : Int32) , f_X9_lookFar s x1 = some r → Kp [27, 28] [22] s r.2 := by
  intro s x1 h
  rw [f_X9_lookFar] at h
  obtain ⟨r1, e2, h⟩ := g_bind h
  rcases Classical.em (r1 = 0) with c3 | c3
  · replace h := g_pos c3 h
    obtain ⟨r4, e5, h⟩ := g_bind h
    rcases Classical.em (r4 = 0) with c6 | c6
    · replace h := g_pos c6 h
      obtain ⟨r7, e8, h⟩ := g_bind h
      rcases Classical.em (r7 = 0) with c9 | c9
      · replace h := g_pos c9 h
        rw [← Option.some.inj h]
        exact Kp.rf
      · replace h := g_neg c9 h
        obtain ⟨g10, h⟩ := g_guard h
        rw [← Option.some.inj h]
        exact Kp.rf
    · replace h := g_neg c6 h
      obtain ⟨r11, e12, h⟩ := g_bind h
      obtain ⟨g13, h⟩ := g_guard h
      rw [← Option.some.inj h]
      exact (Kp.tr Kp.rf (Kp.mo (fr_X9_setsUp s (s.1 23) r11 e12) (by decide) (by decide)))
  · replace h := g_neg c3 h
    obtain ⟨g14, h⟩ := g_guard h
    rw [← Option.some.inj h]
    exact Kp.rf
theorem fr_X9_lookFar (s : gS) (x1 : Int32) (r : Int32 × gS) (h : f_X9_lookFar s x1 = some r) : Kp [27, 28] [22] s r.2 := fr0_X9_lookFar r s x1 h
set_option maxHeartbeats 4000000 in
theorem fr0_X9_look (r : Int32 × gS) : ∀ (s : gS) (x1 : Int32) , f_X9_look s x1 = some r → Kp [27, 28] [22] s r.2 := by
  intro s x1 h
  rw [f_X9_look] at h
  by_cases c1 : x1 = 0
  · replace h := g_pos c1 h
    rw [← Option.some.inj h]
    exact Kp.rf
  replace h := g_neg c1 h
  by_cases c2 : x1 = 1
  · replace h := g_pos c2 h
    rw [← Option.some.inj h]
    exact Kp.rf
  replace h := g_neg c2 h
  by_cases c3 : x1 = 2
  · replace h := g_pos c3 h
    rw [← Option.some.inj h]
    exact Kp.rf
  replace h := g_neg c3 h
  by_cases c4 : x1 = 3
  · replace h := g_pos c4 h
    rcases Classical.em ((s.1 25) = 0) with c5 | c5
    · replace h := g_pos c5 h
      rw [← Option.some.inj h]
      exact Kp.rf
    · replace h := g_neg c5 h
      rw [← Option.some.inj h]
      exact Kp.rf
  replace h := g_neg c4 h
  by_cases c6 : x1 = 4
  · replace h := g_pos c6 h
    rcases Classical.em ((s.1 26) = 0) with c7 | c7
    · replace h := g_pos c7 h
      rw [← Option.some.inj h]
      exact Kp.rf
    · replace h := g_neg c7 h
      rw [← Option.some.inj h]
      exact Kp.rf
  replace h := g_neg c6 h
  by_cases c8 : x1 = 5
  · replace h := g_pos c8 h
    rw [← Option.some.inj h]
    exact Kp.rf
  replace h := g_neg c8 h
  by_cases c9 : x1 = 6
  · replace h := g_pos c9 h
    obtain ⟨r10, e11, h⟩ := g_bind h
    rcases (Classical.em ((r10.1 28) = 3)).symm with c12 | c12
    · replace h := g_neg c12 h
      rw [← Option.some.inj h]
      exact (Kp.tr Kp.rf (Kp.mo (fr_X9_setsUp s (s.1 23) r10 e11) (by decide) (by decide)))
    · replace h := g_pos c12 h
      rw [← Option.some.inj h]
      exact (Kp.tr Kp.rf (Kp.mo (fr_X9_setsUp s (s.1 23) r10 e11) (by decide) (by decide)))
  replace h := g_neg c9 h
  by_cases c13 : x1 = 7
  · replace h := g_pos c13 h
    obtain ⟨r14, e15, h⟩ := g_bind h
    rcases (Classical.em ((r14.1 28) = 3)).symm with c16 | c16
    · replace h := g_neg c16 h
      rw [← Option.some.inj h]
      exact (Kp.tr Kp.rf (Kp.mo (fr_X9_setsUp s (s.1 23) r14 e15) (by decide) (by decide)))
    · replace h := g_pos c16 h
      rw [← Option.some.inj h]
      exact (Kp.tr Kp.rf (Kp.mo (fr_X9_setsUp s (s.1 23) r14 e15) (by decide) (by decide)))
  replace h := g_neg c13 h
  by_cases c17 : x1 = 8
  · replace h := g_pos c17 h
    rw [← Option.some.inj h]
    exact Kp.rf
  replace h := g_neg c17 h
  by_cases c18 : x1 = 9
  · replace h := g_pos c18 h
    rw [← Option.some.inj h]
    exact Kp.rf
  replace h := g_neg c18 h
  by_cases c19 : x1 = 10
  · replace h := g_pos c19 h
    rw [← Option.some.inj h]
    exact Kp.rf
  replace h := g_neg c19 h
  obtain ⟨r20, e21, h⟩ := g_bind h
  rw [← Option.some.inj h]
  exact (Kp.tr Kp.rf (Kp.mo (fr_X9_lookFar s x1 r20 e21) (by decide) (by decide)))
theorem fr_X9_look (s : gS) (x1 : Int32) (r : Int32 × gS) (h : f_X9_look s x1 = some r) : Kp [27, 28] [22] s r.2 := fr0_X9_look r s x1 h
