/-! worth; the moves that are weighed, in both -/
theorem fdI_rng {q : Cfg} {mv : Nat → Nat} {n D i k : Nat} (hq : okC q) (h : okM q mv n) (hi : 1 ≤ i ∧ i ≤ n) (hD : 1 ≤ D) : 0 ≤ fdI q mv n D i ((k : Nat) : Int) ∧ fdI q mv n D i ((k : Nat) : Int) ≤ 16 := by
  have hN := okC_n hq
  have h0 := bI_le (wnF q mv i)
  have h1 := thF_le hq mv i
  have h2 := bI_le (foF q mv D i)
  have h3 := slF_rng hq h hi hD
  have h4 : msF q mv i ≤ 16 := by
    rw [← mk_ms]
    exact Nat.le_trans (cntF_le _ _) hN.2
  have h5 := bI_le (tuF q mv n D i)
  unfold fdI
  split
  · omega
  · split
    · omega
    · split
      · omega
      · split
        · omega
        · split
          · omega
          · omega
theorem wsF_rng {q : Cfg} {mv : Nat → Nat} {n D i : Nat} {wt : Nat → Nat} (hq : okC q) (h : okM q mv n) (hi : 1 ≤ i ∧ i ≤ n) (hD : 1 ≤ D) (hw : ∀ k, wt k ≤ 99) : ∀ k, 0 ≤ wsF q mv n D wt i k ∧ wsF q mv n D wt i k ≤ 1584 * k
  | 0 => by
    show (0 : Int) ≤ 0 ∧ (0 : Int) ≤ _
    omega
  | k + 1 => by
    have ih := wsF_rng (wt := wt) hq h hi hD hw k
    have hf := fdI_rng (k := k) hq h hi hD
    have hk := hw k
    rw [wsF]
    have a1 : 0 ≤ fdI q mv n D i ((k : Nat) : Int) * (wt k : Int) := Int.mul_nonneg hf.1 (by omega)
    have a2 : fdI q mv n D i ((k : Nat) : Int) * (wt k : Int) ≤ 16 * 99 := Int.le_trans (Int.mul_le_mul_of_nonneg_right hf.2 (by omega)) (Int.mul_le_mul_of_nonneg_left (by omega) (by omega))
    omega
def MG (q : Cfg) (mv : Nat → Nat) (n D : Nat) (s : gS) : Prop := Mg q mv n D s ∧ Lc q mv n D s
theorem mg_found {q : Cfg} {mv : Nat → Nat} {n D i k : Nat} {s : gS} (h : MG q mv n D s) (hi : 1 ≤ i ∧ i ≤ n) (hk : k ≤ 5) : ∃ u, f_X9_found s (zI i) (zI ((k : Nat) : Int)) = some (zI (fdI q mv n D i ((k : Nat) : Int)), u) ∧ MG q mv n D u ∧ Kp [27, 28] [22, 23, 24, 25, 26, 27] s u := by
  have hN := okC_n h.1.1
  have hn := okM_n h.1.2.2.2.1
  obtain ⟨u, u1, u2, u3⟩ := m_found h.1 h.2 (a := (i : Int)) (b := ((k : Nat) : Int)) (by omega) (by omega)
  rw [if_pos (by omega), show ((i : Int).toNat) = i by omega] at u1
  exact ⟨u, u1, ⟨h.1.kp u3 (by decide), u2⟩, u3⟩
theorem m_worth1 {q : Cfg} {mv : Nat → Nat} {n D i : Nat} {wt : Nat → Nat} (hi : 1 ≤ i ∧ i ≤ n) : ∀ (m k φ : Nat) (s : gS), k + m = 6 → m < φ → MG q mv n D s → (∀ k, k < 6 → s.2 21 k = zI (wt k)) → ∃ u, f_X9_worth_18 φ s (zI i) (zI (wsF q mv n D wt i k)) (zI k) = some (zI (wsF q mv n D wt i 6), u) ∧ MG q mv n D u ∧ Kp [27, 28] [22, 23, 24, 25, 26, 27] s u
  | 0, k, φ, s, hk, hf, h, hw => by
    obtain ⟨φ, rfl⟩ : ∃ m, φ = m + 1 := ⟨φ - 1, by omega⟩
    have : k = 6 := by omega
    subst this
    rw [f_X9_worth_18, if_pos (by decide)]
    exact ⟨s, rfl, h, Kp.rf⟩
  | m + 1, k, φ, s, hk, hf, h, hw => by
    obtain ⟨φ, rfl⟩ : ∃ m, φ = m + 1 := ⟨φ - 1, by omega⟩
    obtain ⟨u, u1, u2, u3⟩ := mg_found (k := k) h hi (by omega)
    rw [f_X9_worth_18, if_neg (by rw [zI_6, zI_le (by omega) (by omega) (by omega) (by omega)]; omega), if_pos (zin (by omega) (by omega)), u1, ob9, zcl (by omega), hw k (by omega)]
    obtain ⟨v, v1, v2, v3⟩ := m_worth1 (wt := wt) hi m (k + 1) φ u (by omega) (by omega) u2 (fun k hk => by rw [u3.2 21 (by decide)]; exact hw k hk)
    refine ⟨v, ?_, v2, u3.tr v3⟩
    rw [← v1, zI_mul, zI_add, zsuc]
    rw [wsF, Int.mul_comm]
theorem m_worth0 {q : Cfg} {mv : Nat → Nat} {n D i : Nat} {wt : Nat → Nat} {s : gS} (hi : 1 ≤ i ∧ i ≤ n) (h : MG q mv n D s) (hw : ∀ k, k < 6 → s.2 21 k = zI (wt k)) : ∃ u, f_X9_worth s (zI i) = some (zI (wsF q mv n D wt i 6), u) ∧ MG q mv n D u ∧ Kp [27, 28] [22, 23, 24, 25, 26, 27] s u := by
  have hN := okC_n h.1.1
  have hn := okM_n h.1.2.2.2.1
  obtain ⟨m, hm⟩ := gf_big
  obtain ⟨u, u1, u2, u3⟩ := m_worth1 (wt := wt) hi 6 0 gφ s (by omega) (by omega) h hw
  unfold f_X9_worth
  rw [h.1.2.2.1, zI_1, m_in (by omega) (by omega) (by omega), ob9, ← zI_1, if10, if_pos (by omega)]
  rw [z00, show wsF q mv n D wt i 0 = ((0 : Nat) : Int) from rfl, z00] at u1
  exact ⟨u, u1, u2, u3⟩
theorem m_worth {q : Cfg} {mv : Nat → Nat} {n D : Nat} {wt : Nat → Nat} {s : gS} (h : MG q mv n D s) (hw : ∀ k, k < 6 → s.2 21 k = zI (wt k)) {a : Int} (ha : -2147483648 ≤ a ∧ a < 2147483648) : ∃ u, f_X9_worth s (zI a) = some (zI (if 1 ≤ a ∧ a ≤ n then wsF q mv n D wt a.toNat 6 else -1), u) ∧ MG q mv n D u ∧ Kp [27, 28] [22, 23, 24, 25, 26, 27] s u := by
  have hN := okC_n h.1.1
  have hn := okM_n h.1.2.2.2.1
  by_cases c1 : 1 ≤ a ∧ a ≤ n
  · obtain ⟨u, u1, u2, u3⟩ := m_worth0 (i := a.toNat) (wt := wt) (by omega) h hw
    rw [show ((a.toNat : Nat) : Int) = a by omega] at u1
    rw [if_pos c1]
    exact ⟨u, u1, u2, u3⟩
  · unfold f_X9_worth
    rw [h.1.2.2.1, zI_1, m_in ha (by omega) (by omega), ob9, ← zI_1, if10, if_neg c1, if_neg c1, zI_m1]
    exact ⟨s, rfl, h, Kp.rf⟩
set_option maxHeartbeats 1000000 in
theorem m_bytes {q : Cfg} {mv : Nat → Nat} {n D i : Nat} {s : gS} (hi : 1 ≤ i ∧ i ≤ n) (h : MG q mv n D s) : ∃ u, f_X9_bytesOf s (zI i) = some (zI (wdT q mv n D i 1).length, u) ∧ MG q mv n D u ∧ Kp [27, 28] [22, 23, 24, 25, 26, 27] s u := by
  have hN := okC_n h.1.1
  have hn := okM_n h.1.2.2.2.1
  have hD := h.1.2.2.2.2.2.2.1
  have hlen := wdT_len2 (D := D) h.1.1 h.1.2.2.2.1 hi hD
  obtain ⟨a, a1, a2, a3⟩ := mg_found (k := 1) h hi (by omega)
  obtain ⟨b, b1, b2, b3⟩ := mg_found (k := 0) a2 hi (by omega)
  obtain ⟨c, c1, c2, c3⟩ := mg_found (k := 2) b2 hi (by omega)
  obtain ⟨d, d1, d2, d3⟩ := mg_found (k := 3) c2 hi (by omega)
  obtain ⟨e, e1, e2, e3⟩ := mg_found (k := 5) d2 hi (by omega)
  obtain ⟨g, g1, g2, g3⟩ := mg_found (k := 4) e2 hi (by omega)
  have hth := fdI_rng (k := 1) h.1.1 h.1.2.2.2.1 hi hD
  have hms := fdI_rng (k := 4) h.1.1 h.1.2.2.2.1 hi hD
  rw [show zI ((0 : Nat) : Int) = (0 : Int32) from z00] at b1
  rw [show zI ((1 : Nat) : Int) = (1 : Int32) from zI_1.symm] at a1
  rw [show zI ((2 : Nat) : Int) = (2 : Int32) from zI_2.symm] at c1
  rw [show zI ((3 : Nat) : Int) = (3 : Int32) from zI_3.symm] at d1
  rw [show zI ((4 : Nat) : Int) = (4 : Int32) from zI_4.symm] at g1
  rw [show zI ((5 : Nat) : Int) = (5 : Int32) from zI_5.symm] at e1
  simp only [show ((0 : Nat) : Int) = 0 from rfl, show ((1 : Nat) : Int) = 1 from rfl, show ((2 : Nat) : Int) = 2 from rfl, show ((3 : Nat) : Int) = 3 from rfl, show ((4 : Nat) : Int) = 4 from rfl, show ((5 : Nat) : Int) = 5 from rfl] at a1 b1 c1 d1 e1 g1 hth hms
  have hK : Kp [27, 28] [22, 23, 24, 25, 26, 27] s g := ((((a3.tr b3).tr c3).tr d3).tr e3).tr g3
  refine ⟨g, ?_, g2, hK⟩
  have fin : ∀ x y : Int, f_X9_bytesOf_69 e (zI i) (zI x) (zI y) = some (zI (x + y + (if 0 < fdI q mv n D i 4 then 3 else 0)), g) := by
    intro x y
    unfold f_X9_bytesOf_69
    rw [g1, ob9]
    show (if zI (fdI q mv n D i 4) ≤ 0 then some (zI x + zI y + 0, g) else some (zI x + zI y + 3, g)) = _
    by_cases k : 0 < fdI q mv n D i 4
    · rw [if_neg (by rw [zI_0, zI_le (by omega) (by omega) (by omega) (by omega)]; omega), if_pos k, zI_add, zI_3, zI_add]
    · rw [if_pos (by rw [zI_0, zI_le (by omega) (by omega) (by omega) (by omega)]; omega), if_neg k, zI_add, zI_0, zI_add]
  have mid : ∀ z : Int, f_X9_bytesOf_18 a (zI i) (zI (fdI q mv n D i 1)) (zI z) = some (zI (z + 3 + fdI q mv n D i 0 + fdI q mv n D i 2 + fdI q mv n D i 3 + fdI q mv n D i 5 + (if fdI q mv n D i 1 = 0 then 0 else if fdI q mv n D i 1 < 10 then 2 else 3) + (if 0 < fdI q mv n D i 4 then 3 else 0)), g) := by
    intro z
    unfold f_X9_bytesOf_18
    rw [b1, ob9, c1, ob9, d1, ob9, e1, ob9]
    show (if zI (fdI q mv n D i 1) = 0 then f_X9_bytesOf_69 e (zI i) (zI z + 3 + zI (fdI q mv n D i 0) + zI (fdI q mv n D i 2) + zI (fdI q mv n D i 3) + zI (fdI q mv n D i 5)) 0 else if zI (fdI q mv n D i 1) < 10 then f_X9_bytesOf_69 e (zI i) (zI z + 3 + zI (fdI q mv n D i 0) + zI (fdI q mv n D i 2) + zI (fdI q mv n D i 3) + zI (fdI q mv n D i 5)) 2 else f_X9_bytesOf_69 e (zI i) (zI z + 3 + zI (fdI q mv n D i 0) + zI (fdI q mv n D i 2) + zI (fdI q mv n D i 3) + zI (fdI q mv n D i 5)) 3) = _
    have es : zI z + 3 + zI (fdI q mv n D i 0) + zI (fdI q mv n D i 2) + zI (fdI q mv n D i 3) + zI (fdI q mv n D i 5) = zI (z + 3 + fdI q mv n D i 0 + fdI q mv n D i 2 + fdI q mv n D i 3 + fdI q mv n D i 5) := by
      rw [zI_3, zI_add, zI_add, zI_add, zI_add, zI_add]
    rw [es]
    by_cases k : fdI q mv n D i 1 = 0
    · rw [if_pos (by rw [k, zI_0]), if_pos k]
      exact fin _ 0
    · rw [if_neg (by rw [zI_0, zI_eq (by omega) (by omega) (by omega) (by omega)]; omega), if_neg k]
      by_cases k2 : fdI q mv n D i 1 < 10
      · rw [if_pos (by rw [zI_10, zI_lt (by omega) (by omega) (by omega) (by omega)]; omega), if_pos k2]
        exact fin _ 2
      · rw [if_neg (by rw [zI_10, zI_lt (by omega) (by omega) (by omega) (by omega)]; omega), if_neg k2]
        exact fin _ 3
  unfold f_X9_bytesOf
  rw [a1, ob9, hlen]
  show (if zI (i : Int) < 10 then f_X9_bytesOf_18 a (zI i) (zI (fdI q mv n D i 1)) 1 else f_X9_bytesOf_18 a (zI i) (zI (fdI q mv n D i 1)) 2) = _
  by_cases k : i < 10
  · rw [if_pos (by rw [zI_10, zI_lt (by omega) (by omega) (by omega) (by omega)]; omega), if_pos k]
    exact mid 1
  · rw [if_neg (by rw [zI_10, zI_lt (by omega) (by omega) (by omega) (by omega)]; omega), if_neg k]
    exact mid 2
/-- the first twelve moves that are worth something -/
def ofL (ws : Nat → Int) : Nat → List Nat
  | 0 => []
  | i + 1 => if (ofL ws i).length < 12 ∧ ws (i + 1) ≠ 0 then ofL ws i ++ [i + 1] else ofL ws i
theorem ofL_len (ws : Nat → Int) : ∀ i, (ofL ws i).length ≤ 12
  | 0 => by simp [ofL]
  | i + 1 => by
    have ih := ofL_len ws i
    rw [ofL]
    split
    · rw [List.length_append, List.length_singleton]; omega
    · exact ih
theorem ofL_full {ws : Nat → Int} {i : Nat} (h : 12 ≤ (ofL ws i).length) : ∀ k, ofL ws (i + k) = ofL ws i
  | 0 => rfl
  | k + 1 => by
    have ih := ofL_full h k
    show ofL ws (i + k + 1) = _
    rw [ofL, ih, if_neg (by omega)]
theorem ofL_in {ws : Nat → Int} : ∀ (i x : Nat), x ∈ ofL ws i → 1 ≤ x ∧ x ≤ i ∧ ws x ≠ 0
  | 0, x, h => by simp [ofL] at h
  | i + 1, x, h => by
    rw [ofL] at h
    by_cases c : (ofL ws i).length < 12 ∧ ws (i + 1) ≠ 0
    · rw [if_pos c, List.mem_append, List.mem_singleton] at h
      rcases h with h | h
      · have := ofL_in i x h; omega
      · subst h; exact ⟨by omega, by omega, c.2⟩
    · rw [if_neg c] at h
      have := ofL_in i x h; omega
def OfS (kN a b c : Nat) (ws ls : Nat → Int) (L : List Nat) (s : gS) : Prop := s.1 kN = zI L.length ∧ ∀ j, j < L.length → s.2 a j = zI (L.getD j 0 : Nat) ∧ s.2 b j = zI (ws (L.getD j 0)) ∧ s.2 c j = zI (ls (L.getD j 0))
theorem getD_app {L : List Nat} {x j : Nat} : (L ++ [x]).getD j 0 = if j < L.length then L.getD j 0 else if j = L.length then x else 0 := by
  rw [List.getD_eq_getElem?_getD, List.getD_eq_getElem?_getD]
  by_cases c : j < L.length
  · rw [if_pos c, List.getElem?_append_left c]
  · rw [if_neg c, List.getElem?_append_right (by omega)]
    by_cases e : j = L.length
    · subst e
      simp
    · rw [if_neg e, List.getElem?_eq_none (by rw [List.length_singleton]; omega)]
      rfl
theorem OfS.add {kN a b c : Nat} {ws ls : Nat → Int} {L : List Nat} {x : Nat} {s u : gS} (h : OfS kN a b c ws ls L s) (h0 : u.1 kN = zI ((L.length + 1 : Nat) : Int)) (h1 : ∀ j, u.2 a j = if j = L.length then zI x else s.2 a j) (h2 : ∀ j, u.2 b j = if j = L.length then zI (ws x) else s.2 b j) (h3 : ∀ j, u.2 c j = if j = L.length then zI (ls x) else s.2 c j) : OfS kN a b c ws ls (L ++ [x]) u := by
  refine ⟨by rw [h0, List.length_append, List.length_singleton], fun j hj => ?_⟩
  rw [List.length_append, List.length_singleton] at hj
  rw [getD_app, h1, h2, h3]
  by_cases e : j = L.length
  · subst e
    rw [if_pos rfl, if_neg (by omega), if_pos rfl, if_pos rfl, if_pos rfl]
    exact ⟨rfl, rfl, rfl⟩
  · rw [if_neg e, if_pos (by omega), if_neg e, if_neg e]
    exact h.2 j (by omega)
