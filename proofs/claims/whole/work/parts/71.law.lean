theorem zp_k (c k : Nat) (x : Int32) (hx : x = zI (k : Int)) : zI (c : Int) + x = zI ((c + k : Nat) : Int) := by rw [hx]; exact zadd2 c k
set_option maxHeartbeats 4000000 in
set_option maxRecDepth 100000 in
theorem law_step {L : Nat} {xs : Nat → Int32} (hL : L ≤ 3072) {i : Nat} (hi : i + 6 ≤ L) {s : gS} (h : Iv s) (φ : Nat) : ∃ s2, Iv s2 ∧ f_L_law_tail L xs (φ + 1) s (zI i) = f_L_law_tail L xs φ s2 (zI ((i + 6 : Nat) : Int)) := by
  have g0 : inB (zI (i : Int)) L = true := zin (by omega) (by omega)
  have g1 : inB (zI (i : Int) + 1) L = true := by rw [zp_k i 1 1 (by decide)]; exact zin (by omega) (by omega)
  have g2 : inB (zI (i : Int) + 2) L = true := by rw [zp_k i 2 2 (by decide)]; exact zin (by omega) (by omega)
  have g3 : inB (zI (i : Int) + 3) L = true := by rw [zp_k i 3 3 (by decide)]; exact zin (by omega) (by omega)
  have g4 : inB (zI (i : Int) + 4) L = true := by rw [zp_k i 4 4 (by decide)]; exact zin (by omega) (by omega)
  have g5 : inB (zI (i : Int) + 5) L = true := by rw [zp_k i 5 5 (by decide)]; exact zin (by omega) (by omega)
  have g6 : zI (i : Int) + 6 = zI ((i + 6 : Nat) : Int) := zp_k i 6 6 (by decide)
  have ge : ¬ (Int32.ofNat L - 6) < zI (i : Int) := by
    rw [zI_ofNat, zI_6, zI_sub, zI_lt (by omega) (by omega) (by omega) (by omega)]
    omega
  rw [f_L_law_tail, if_neg ge, if_pos g0]
  unfold f_L_law_tail_149 f_L_law_tail_162 f_L_law_tail_194 f_L_law_tail_207 f_L_law_tail_686
  simp only [g1, g2, g3, g4, g5, ↓reduceIte]
  rw [g6]
  generalize xs (zI (i : Int)).toNatClampNeg &&& 31 = c
  generalize xs (zI (i : Int) + 1).toNatClampNeg = y1
  generalize xs (zI (i : Int) + 2).toNatClampNeg = y2
  generalize xs (zI (i : Int) + 3).toNatClampNeg = y3
  generalize xs (zI (i : Int) + 4).toNatClampNeg = y4
  generalize xs (zI (i : Int) + 5).toNatClampNeg = y5
  by_cases c0 : c = 0
  · rw [if_pos c0]
    by_cases e4 : y4 = 0
    · by_cases e5 : y5 = 0
      · obtain ⟨r, s1, s2, a1, a2, a3⟩ := op_game h y1 y2 y3 false false
        rw [show zI (bI false) = (0 : Int32) from rfl] at a1 a2
        rw [if_pos e4, if_pos e5, a1, ob9, if_pos e4, if_pos e5]
        dsimp only
        rw [a2, ob9, if_pos rfl]
        exact ⟨s2, a3, rfl⟩
      · obtain ⟨r, s1, s2, a1, a2, a3⟩ := op_game h y1 y2 y3 false true
        rw [show zI (bI false) = (0 : Int32) from rfl, show zI (bI true) = (1 : Int32) from rfl] at a1 a2
        rw [if_pos e4, if_neg e5, a1, ob9, if_pos e4, if_neg e5]
        dsimp only
        rw [a2, ob9, if_pos rfl]
        exact ⟨s2, a3, rfl⟩
    · by_cases e5 : y5 = 0
      · obtain ⟨r, s1, s2, a1, a2, a3⟩ := op_game h y1 y2 y3 true false
        rw [show zI (bI false) = (0 : Int32) from rfl, show zI (bI true) = (1 : Int32) from rfl] at a1 a2
        rw [if_neg e4, if_pos e5, a1, ob9, if_neg e4, if_pos e5]
        dsimp only
        rw [a2, ob9, if_pos rfl]
        exact ⟨s2, a3, rfl⟩
      · obtain ⟨r, s1, s2, a1, a2, a3⟩ := op_game h y1 y2 y3 true true
        rw [show zI (bI true) = (1 : Int32) from rfl] at a1 a2
        rw [if_neg e4, if_neg e5, a1, ob9, if_neg e4, if_neg e5]
        dsimp only
        rw [a2, ob9, if_pos rfl]
        exact ⟨s2, a3, rfl⟩
  rw [if_neg c0]
  by_cases c1 : c = 1
  · obtain ⟨r, s1, s2, a1, a2, a3⟩ := op_play h y1
    rw [if_pos c1, a1, ob9]
    dsimp only
    rw [a2, ob9, if_pos rfl]
    exact ⟨s2, a3, rfl⟩
  rw [if_neg c1]
  by_cases c2 : c = 2
  · obtain ⟨r, s1, s2, a1, a2, a3⟩ := op_back h 
    rw [if_pos c2, a1, ob9]
    dsimp only
    rw [a2, ob9, if_pos rfl]
    exact ⟨s2, a3, rfl⟩
  rw [if_neg c2]
  by_cases c3 : c = 3
  · obtain ⟨r, s1, s2, a1, a2, a3⟩ := op_depth h y1
    rw [if_pos c3, a1, ob9]
    dsimp only
    rw [a2, ob9, if_pos rfl]
    exact ⟨s2, a3, rfl⟩
  rw [if_neg c3]
  by_cases c4 : c = 4
  · obtain ⟨r, s1, s2, a1, a2, a3⟩ := op_weight h y1 y2
    rw [if_pos c4, a1, ob9]
    dsimp only
    rw [a2, ob9, if_pos rfl]
    exact ⟨s2, a3, rfl⟩
  rw [if_neg c4]
  by_cases c5 : c = 5
  · obtain ⟨r, s1, s2, a1, a2, a3⟩ := op_value h y1 y2
    rw [if_pos c5, a1, ob9]
    dsimp only
    rw [a2, ob9, if_pos rfl]
    exact ⟨s2, a3, rfl⟩
  rw [if_neg c5]
  by_cases c6 : c = 6
  · obtain ⟨r, s1, s2, a1, a2, a3⟩ := op_best h y1 y2
    rw [if_pos c6, a1, ob9]
    dsimp only
    rw [a2, ob9, if_pos rfl]
    exact ⟨s2, a3, rfl⟩
  rw [if_neg c6]
  by_cases c7 : c = 7
  · obtain ⟨r, s1, s2, a1, a2, a3⟩ := op_found h y1 y2
    rw [if_pos c7, a1, ob9]
    dsimp only
    rw [a2, ob9, if_pos rfl]
    exact ⟨s2, a3, rfl⟩
  rw [if_neg c7]
  by_cases c8 : c = 8
  · obtain ⟨r, s1, s2, a1, a2, a3⟩ := op_leader h y1
    rw [if_pos c8, a1, ob9]
    dsimp only
    rw [a2, ob9, if_pos rfl]
    exact ⟨s2, a3, rfl⟩
  rw [if_neg c8]
  by_cases c9 : c = 9
  · obtain ⟨r, s2, a1, a2, a3⟩ := op_plan h y1
    rw [if_pos c9, a1, ob9, a2, ob9, if_pos rfl]
    exact ⟨s2, a3, rfl⟩
  rw [if_neg c9]
  by_cases c10 : c = 10
  · obtain ⟨r, s1, s2, a1, a2, a3⟩ := op_words h y1 y2
    rw [if_pos c10, a1, ob9]
    dsimp only
    rw [a2, ob9, if_pos rfl]
    exact ⟨s2, a3, rfl⟩
  rw [if_neg c10]
  by_cases c11 : c = 11
  · obtain ⟨r, s1, s2, a1, a2, a3⟩ := op_tale h y1
    rw [if_pos c11, a1, ob9]
    dsimp only
    rw [a2, ob9, if_pos rfl]
    exact ⟨s2, a3, rfl⟩
  rw [if_neg c11]
  by_cases c12 : c = 12
  · obtain ⟨r, a1, a2⟩ := op_octet h y1
    rw [if_pos c12, a1, ob9, a2, ob9, if_pos rfl]
    exact ⟨s, h, rfl⟩
  rw [if_neg c12]
  by_cases c13 : c = 13
  · obtain ⟨r, s1, s2, a1, a2, a3⟩ := op_chosen h y1
    rw [if_pos c13, a1, ob9]
    dsimp only
    rw [a2, ob9, if_pos rfl]
    exact ⟨s2, a3, rfl⟩
  rw [if_neg c13]
  by_cases c14 : c = 14
  · obtain ⟨r, s1, s2, a1, a2, a3⟩ := op_worth h y1
    rw [if_pos c14, a1, ob9]
    dsimp only
    rw [a2, ob9, if_pos rfl]
    exact ⟨s2, a3, rfl⟩
  rw [if_neg c14]
  by_cases c15 : c = 15
  · obtain ⟨r, s1, s2, a1, a2, a3⟩ := op_feed h y1 y2 y3 y4 y5
    rw [if_pos c15, a1, ob9]
    dsimp only
    rw [a2, ob9, if_pos rfl]
    exact ⟨s2, a3, rfl⟩
  rw [if_neg c15]
  by_cases c16 : c = 16
  · obtain ⟨r, s1, s2, a1, a2, a3⟩ := op_read h y1
    rw [if_pos c16, a1, ob9]
    dsimp only
    rw [a2, ob9, if_pos rfl]
    exact ⟨s2, a3, rfl⟩
  rw [if_neg c16]
  by_cases c17 : c = 17
  · obtain ⟨r, s2, a1, a2, a3⟩ := op_look h y1
    rw [if_pos c17, a1, ob9, a2, ob9, if_pos rfl]
    exact ⟨s2, a3, rfl⟩
  rw [if_neg c17]
  exact ⟨s, h, rfl⟩
theorem law_run {L : Nat} {xs : Nat → Int32} (hL : L ≤ 3072) : ∀ (m i φ : Nat) (s : gS), L < i + 6 * m + 6 → i ≤ L + 6 → m < φ → Iv s → ∃ u, f_L_law_tail L xs φ s (zI i) = some (1, u)
  | 0, i, φ, s, hm, hi, hf, h => by
    obtain ⟨φ, rfl⟩ : ∃ m, φ = m + 1 := ⟨φ - 1, by omega⟩
    rw [f_L_law_tail, if_pos (by rw [zI_ofNat, zI_6, zI_sub, zI_lt (by omega) (by omega) (by omega) (by omega)]; omega)]
    exact ⟨s, rfl⟩
  | m + 1, i, φ, s, hm, hi, hf, h => by
    obtain ⟨φ, rfl⟩ : ∃ m, φ = m + 1 := ⟨φ - 1, by omega⟩
    by_cases c : i + 6 ≤ L
    · obtain ⟨s2, a1, a2⟩ := law_step (xs := xs) hL c h φ
      rw [a2]
      exact law_run hL m (i + 6) φ s2 (by omega) (by omega) (by omega) a1
    · rw [f_L_law_tail, if_pos (by rw [zI_ofNat, zI_6, zI_sub, zI_lt (by omega) (by omega) (by omega) (by omega)]; omega)]
      exact ⟨s, rfl⟩
/-! THE START -/
theorem init1 : ∀ (m i φ : Nat) (s : gS), i + m = 6 → m < φ → (∀ j, j < i → s.2 21 j = zI 1) → ∃ u, f_X9_init_tail_131 φ s (zI i) = some u ∧ (∀ j, j < 6 → u.2 21 j = zI 1) ∧ (∀ j, j < 17 → u.2 27 j = zI 0) ∧ Kp [] [21, 27] s u
  | 0, i, φ, s, hi, hf, h => by
    obtain ⟨φ, rfl⟩ : ∃ m, φ = m + 1 := ⟨φ - 1, by omega⟩
    obtain ⟨t, t1, t2, t3⟩ := m_forgets s
    rw [f_X9_init_tail_131, if_pos (by rw [zI_6, zI_le (by omega) (by omega) (by omega) (by omega)]; omega), t1, ob9]
    exact ⟨t, rfl, fun j hj => by rw [t3.2 21 (by decide)]; exact h j (by omega), t2, t3.mo (by decide) (by decide)⟩
  | m + 1, i, φ, s, hi, hf, h => by
    obtain ⟨φ, rfl⟩ : ∃ m, φ = m + 1 := ⟨φ - 1, by omega⟩
    rw [f_X9_init_tail_131, if_neg (by rw [zI_6, zI_le (by omega) (by omega) (by omega) (by omega)]; omega), if_pos (zin (by omega) (by omega)), zcl (by omega), zsuc]
    obtain ⟨u, u1, u2, u3, u4⟩ := init1 m (i + 1) φ (sa s 21 i 1) (by omega) (by omega) (fun j hj => by
      rw [sa_at]
      by_cases e : j = i
      · rw [if_pos ⟨rfl, e⟩, zI_1]
      · rw [if_neg (fun g => e g.2)]
        exact h j (by omega))
    exact ⟨u, u1, u2, u3, (Kp.rf.sa (by decide)).tr u4⟩
theorem bt_7399 : ∀ i : Fin 32, bt 7399 i.val = inBd (3, 3, 3, false, false) i.val := by decide +kernel
theorem bt_7 : ∀ i : Fin 32, bt 7 i.val = decide (i.val < 3) := by decide +kernel
theorem s00_C : IC (3, 3, 3, false, false) (fun _ => 0) 0 3 (fun _ => 1) [] (fun _ => 0) 0 0 s00 := by
  refine ⟨⟨⟨⟨⟨by decide, by decide, by decide, by decide, by decide, by decide⟩, rfl, rfl, rfl, rfl, rfl, fun i => ?_, fun i => ?_⟩, rfl, fun i hi => by omega, fun i hi => by omega, rfl, rfl, by decide, by decide⟩, fun i hi d h1 h2 => ?_, 0, by omega, rfl, fun i h1 h2 => by omega⟩, fun k hk => ?_, ⟨rfl, fun j hj => by cases hj⟩, ⟨by omega, fun _ => show 0 < 256 by decide, rfl, fun j hj => by omega⟩, rfl⟩
  · show bt 7399 i = _
    by_cases c : i < 32
    · exact bt_7399 ⟨i, c⟩
    · rw [bt_ge (by omega)]
      symm
      unfold inBd
      rw [decide_eq_false]
      show ¬ (i % 5 < 3 ∧ i / 5 < 3)
      omega
  · show bt 7 i = decide (i < 3)
    by_cases c : i < 32
    · exact bt_7 ⟨i, c⟩
    · rw [bt_ge (by omega), decide_eq_false (by omega)]
  · left
    show (if 6 * i + d < 102 then (2 : Int32) else 0) = zI 2
    rw [if_pos (by omega)]
    rfl
  · show (if k < 6 then (1 : Int32) else 0) = zI ((1 : Nat) : Int)
    rw [if_pos hk]
    rfl
theorem law_pure (L : Nat) (xs : Nat → Int32) (hL : L ≤ 3072) : ∃ r0 r1 : gS, f_X9_init_tail s00 = some r0 ∧ f_L_law_tail L xs gφ r0 0 = some (1, r1) := by
  obtain ⟨g, hg⟩ := gf_big
  obtain ⟨u, u1, u2, u3, u4⟩ := init1 6 0 gφ s00 (by omega) (by omega) (fun j hj => by omega)
  have hC : IC (3, 3, 3, false, false) (fun _ => 0) 0 3 (fun _ => 1) [] (fun _ => 0) 0 0 u := s00_C.mod u4 (by decide) (by decide)
  have hM : IM (3, 3, 3, false, false) (fun _ => 0) 0 3 (fun _ => 1) [] (fun _ => 0) 0 0 u := by
    refine ⟨⟨⟨⟨by decide, by decide, by decide, by decide, by decide, by decide⟩, ⟨?_, ?_, ?_, ?_, ?_⟩, ?_, fun i hi => by omega, fun i hi => by omega, ?_, by decide, by decide⟩, Lc.new (by omega) u3⟩, fun k hk => u2 k hk, ⟨?_, fun j hj => by cases hj⟩, ⟨by omega, fun _ => show 0 < 256 by decide, ?_, fun j hj => by omega⟩, ?_⟩
    · rw [u4.1 20 (by decide)]; rfl
    · rw [u4.1 21 (by decide)]; rfl
    · rw [u4.1 22 (by decide)]; rfl
    · rw [u4.1 25 (by decide)]; rfl
    · rw [u4.1 26 (by decide)]; rfl
    · rw [u4.1 23 (by decide)]; rfl
    · rw [u4.1 24 (by decide)]; rfl
    · rw [u4.1 29 (by decide)]; rfl
    · rw [u4.1 31 (by decide)]; rfl
    · rw [u4.1 34 (by decide)]; rfl
  obtain ⟨v, v1⟩ := law_run (xs := xs) hL 600 0 gφ u (by omega) (by omega) (by omega) ⟨_, _, _, _, _, _, _, _, _, hC, hM, fun _ => show 1 ≤ 99 by decide, by decide⟩
  exact ⟨u, v, u1, v1⟩
