/-! the model's position behind n moves -/
theorem zI_4 : (4 : Int32) = zI 4 := by decide
theorem zI_5 : (5 : Int32) = zI 5 := by decide
theorem zI_6 : (6 : Int32) = zI 6 := by decide
theorem zI_7 : (7 : Int32) = zI 7 := by decide
theorem zI_8 : (8 : Int32) = zI 8 := by decide
theorem zI_9 : (9 : Int32) = zI 9 := by decide
theorem zI_10 : (10 : Int32) = zI 10 := by decide
theorem zI_11 : (11 : Int32) = zI 11 := by decide
theorem zI_12 : (12 : Int32) = zI 12 := by decide
theorem zI_16 : (16 : Int32) = zI 16 := by decide
theorem zI_17 : (17 : Int32) = zI 17 := by decide
theorem zI_20 : (20 : Int32) = zI 20 := by decide
theorem zI_24 : (24 : Int32) = zI 24 := by decide
theorem zI_31 : (31 : Int32) = zI 31 := by decide
theorem zI_32 : (32 : Int32) = zI 32 := by decide
theorem zI_33 : (33 : Int32) = zI 33 := by decide
theorem zI_35 : (35 : Int32) = zI 35 := by decide
theorem zI_37 : (37 : Int32) = zI 37 := by decide
theorem zI_40 : (40 : Int32) = zI 40 := by decide
theorem zI_42 : (42 : Int32) = zI 42 := by decide
theorem zI_43 : (43 : Int32) = zI 43 := by decide
theorem zI_46 : (46 : Int32) = zI 46 := by decide
theorem zI_48 : (48 : Int32) = zI 48 := by decide
theorem zI_49 : (49 : Int32) = zI 49 := by decide
theorem zI_52 : (52 : Int32) = zI 52 := by decide
theorem zI_57 : (57 : Int32) = zI 57 := by decide
theorem zI_60 : (60 : Int32) = zI 60 := by decide
theorem zI_61 : (61 : Int32) = zI 61 := by decide
theorem zI_63 : (63 : Int32) = zI 63 := by decide
theorem zI_97 : (97 : Int32) = zI 97 := by decide
theorem zI_99 : (99 : Int32) = zI 99 := by decide
theorem zI_100 : (100 : Int32) = zI 100 := by decide
theorem zI_119 : (119 : Int32) = zI 119 := by decide
theorem zI_120 : (120 : Int32) = zI 120 := by decide
theorem zI_200 : (200 : Int32) = zI 200 := by decide
theorem zI_201 : (201 : Int32) = zI 201 := by decide
theorem zI_255 : (255 : Int32) = zI 255 := by decide
theorem zI_272 : (272 : Int32) = zI 272 := by decide
theorem m_starts1 : ∀ (m φ j : Nat) (s : gS), j + m = 16 → m < φ → (∀ i, i < j → s.2 22 i = zI 2) → ∃ t, f_X9_starts_2 φ s (zI j) = some t ∧ (∀ i, i < 16 → t.2 22 i = zI 2) ∧ t.1 27 = zI 0 ∧ t.1 28 = zI 3
  | 0, φ, j, s, hj, hf, hs => by
    obtain ⟨m, rfl⟩ : ∃ m, φ = m + 1 := ⟨φ - 1, by omega⟩
    refine ⟨ss (ss s 27 0) 28 3, ?_, ?_, by rw [← zI_0]; rfl, by rw [← zI_3]; rfl⟩
    · rw [f_X9_starts_2, zI_16]
      simp (disch := omega) only [zI_le]
      rw [if_pos (by omega)]
    · intro i hi
      exact hs i (by omega)
  | m + 1, φ, j, s, hj, hf, hs => by
    obtain ⟨φ, rfl⟩ : ∃ m, φ = m + 1 := ⟨φ - 1, by omega⟩
    have e1 : zI (j : Int) + 1 = zI ((j + 1 : Nat) : Int) := by rw [zI_1, zI_add]; rfl
    have hcl : (zI (j : Int)).toNatClampNeg = j := by rw [zI_cl (by omega) (by omega)]; rfl
    obtain ⟨t, h1, h2⟩ := m_starts1 m φ (j + 1) (sa s 22 j (zI 2)) (by omega) (by omega) (fun i hi => by
      rw [sa_r, if_pos rfl, upd_at]
      by_cases e : i = j
      · rw [if_pos e]
      · rw [if_neg e]
        exact hs i (by omega))
    refine ⟨t, ?_, h2⟩
    rw [f_X9_starts_2, zI_16]
    simp (disch := omega) only [zI_le]
    rw [if_neg (by omega), zI_in (by omega) (by omega), if_pos (by simp only [decide_eq_true_eq]; omega), hcl, e1, zI_2]
    exact h1
theorem m_starts (s : gS) : ∃ t, f_X9_starts s = some t ∧ StB t (fun _ => 2) ∧ t.1 27 = zI 0 ∧ t.1 28 = zI 3 ∧ Kp [27, 28] [22] s t := by
  obtain ⟨m, hm⟩ := gf_succ
  obtain ⟨t, h1, h2, h3, h4⟩ := m_starts1 16 gφ 0 s (by omega) (by omega) (fun i hi => by omega)
  have h5 : f_X9_starts s = some t := by
    unfold f_X9_starts
    rw [zI_0]
    exact h1
  exact ⟨t, h5, ⟨fun _ => Nat.le_refl 2, h2⟩, h3, h4, fr_X9_starts s t h5⟩
theorem zI_par {n : Nat} (h : n < 2147483648) : zI (n : Int) - zI (n : Int) / 2 * 2 = zI ((n % 2 : Nat) : Int) := by
  rw [zI_2, zI_div (by omega) (by omega) (by omega) (by omega), zI_mod, Int.natCast_emod]
  rfl
theorem StB.set {s : gS} {p : Nat → Nat} {c v : Nat} (h : StB s p) (hv : v ≤ 2) : StB (sa s 22 c (zI v)) (set1 p c v) := by
  refine ⟨fun j => ?_, fun j hj => ?_⟩
  · unfold set1
    by_cases e : j = c
    · rw [if_pos e]; exact hv
    · rw [if_neg e]; exact h.1 j
  · rw [sa_r, if_pos rfl, upd_at]
    unfold set1
    by_cases e : j = c
    · rw [if_pos e, if_pos e]
    · rw [if_neg e, if_neg e]; exact h.2 j hj
theorem m_sets {q : Cfg} {s : gS} {p : Nat → Nat} {n c : Nat} (hq : okC q) (hs : MS q s) (hp : StB s p) (hn : s.1 27 = zI n) (hw : s.1 28 = zI 3) (hn16 : n < 16) (hc : c < cN q) : ∃ t, f_X9_sets s (zI c) = some t ∧ StB t (set1 p c (n % 2)) ∧ t.1 27 = zI ((n + 1 : Nat) : Int) ∧ t.1 28 = zI ((if rowAt q p (n % 2) c = true then (if cL q = true then 1 - n % 2 else n % 2) else if n + 1 = cN q then 2 else 3 : Nat) : Int) ∧ Kp [27, 28] [22] s t := by
  have hN := okC_n hq
  have hcl : (zI (c : Int)).toNatClampNeg = c := by rw [zI_cl (by omega) (by omega)]; rfl
  have hNN : zI (cW q) * zI (cH q) = zI (cN q) := by rw [zI_mul]; unfold cN; rw [Int.natCast_mul]
  have e1 : zI (n : Int) + 1 = zI ((n + 1 : Nat) : Int) := by rw [zI_1, zI_add]; rfl
  have hp2 : StB (ss (sa s 22 c (zI ((n % 2 : Nat) : Int))) 27 (zI ((n + 1 : Nat) : Int))) (set1 p c (n % 2)) := hp.set (by omega)
  have hs2 : MS q (ss (sa s 22 c (zI ((n % 2 : Nat) : Int))) 27 (zI ((n + 1 : Nat) : Int))) := hs
  have hrow := m_makesRow (v := n % 2) (c := c) hq hs2 hp2 (by omega) hc
  rw [rowAt_set] at hrow
  have key : f_X9_sets s (zI c) = some (ss (ss (sa s 22 c (zI ((n % 2 : Nat) : Int))) 27 (zI ((n + 1 : Nat) : Int))) 28 (zI ((if rowAt q p (n % 2) c = true then (if cL q = true then 1 - n % 2 else n % 2) else if n + 1 = cN q then 2 else 3 : Nat) : Int))) ∨ ((rowAt q p (n % 2) c = false ∧ n + 1 ≠ cN q) ∧ f_X9_sets s (zI c) = some (ss (sa s 22 c (zI ((n % 2 : Nat) : Int))) 27 (zI ((n + 1 : Nat) : Int)))) := by
    unfold f_X9_sets
    rw [zI_in (by omega) (by omega), if_pos (by simp only [decide_eq_true_eq]; omega), hcl, hn, zI_par (by omega), e1, hrow]
    simp only [Option.bind_some, if10]
    have hb9 := bI_le (cL q)
    by_cases c1 : rowAt q p (n % 2) c = true
    · rw [if_pos c1, if_pos c1, hs.2.2.2.2, zI_0]
      simp (disch := omega) only [zI_eq]
      left
      cases h : cL q with
      | false => rw [if_pos (by rfl), if_neg (by decide)]; rfl
      | true =>
        rw [if_neg (by decide), if_pos rfl]
        unfold f_X9_sets_48
        rw [zI_1, zI_sub]
        congr 2
        apply zI_c
        omega
    · rw [if_neg c1, if_neg c1, hs.1, hs.2.1, hNN]
      simp (disch := omega) only [zI_eq]
      by_cases c2 : n + 1 = cN q
      · rw [if_pos (by omega), if_pos c2]
        left
        rfl
      · rw [if_neg (by omega), if_neg c2]
        right
        exact ⟨⟨by simpa using c1, c2⟩, rfl⟩
  rcases key with key | ⟨⟨k1, k2⟩, key⟩
  · exact ⟨_, key, hp2, rfl, rfl, fr_X9_sets s (zI c) _ key⟩
  · refine ⟨_, key, hp2, rfl, ?_, fr_X9_sets s (zI c) _ key⟩
    rw [if_neg (by rw [k1]; decide), if_neg k2]
    exact hw
/-- the cells of the moves -/
def CeB (s : gS) (mv : Nat → Nat) (n : Nat) : Prop := ∀ i, i < n → s.2 20 i = zI (mv i)
theorem okM_lt {q : Cfg} {mv : Nat → Nat} {n i : Nat} (h : okM q mv n) (hi : i < n) : mv i < cN q := (of_decide_eq_true (h i hi).2 : _ ∧ _).1
theorem okM.le {q : Cfg} {mv : Nat → Nat} {n m : Nat} (h : okM q mv n) (hm : m ≤ n) : okM q mv m := fun i hi => h i (by omega)
theorem m_setsUp1 {q : Cfg} {mv : Nat → Nat} {n : Nat} (hq : okC q) (hok : okM q mv n) (hn : n ≤ 16) : ∀ (m φ j : Nat) (s : gS), j + m = n → m < φ → MS q s → CeB s mv n → StB s (posF mv j) → s.1 27 = zI j → s.1 28 = zI (winF q mv j) → ∃ t, f_X9_setsUp_6 φ s (zI n) (zI j) = some t ∧ StB t (posF mv n) ∧ t.1 27 = zI n ∧ t.1 28 = zI (winF q mv n)
  | 0, φ, j, s, hj, hf, hs, hc, hp, h1, h2 => by
    obtain ⟨φ, rfl⟩ : ∃ m, φ = m + 1 := ⟨φ - 1, by omega⟩
    have e : j = n := by omega
    subst e
    refine ⟨s, ?_, hp, h1, h2⟩
    rw [f_X9_setsUp_6]
    simp (disch := omega) only [zI_le]
    rw [if_pos (by omega)]
  | m + 1, φ, j, s, hj, hf, hs, hc, hp, h1, h2 => by
    obtain ⟨φ, rfl⟩ : ∃ m, φ = m + 1 := ⟨φ - 1, by omega⟩
    have hcl : (zI (j : Int)).toNatClampNeg = j := by rw [zI_cl (by omega) (by omega)]; rfl
    have e1 : zI (j : Int) + 1 = zI ((j + 1 : Nat) : Int) := by rw [zI_1, zI_add]; rfl
    have hw := (hok j (by omega)).1
    rw [hw] at h2
    obtain ⟨u, g1, g2, g3, g4, g5⟩ := m_sets (c := mv j) hq hs hp h1 h2 (by omega) (okM_lt hok (by omega))
    obtain ⟨t, k1, k2⟩ := m_setsUp1 hq hok hn m φ (j + 1) u (by omega) (by omega) (hs.kp g5 (by decide)) (fun i hi => by rw [g5.2 20 (by decide)]; exact hc i hi) g2 g3 g4
    refine ⟨t, ?_, k2⟩
    rw [f_X9_setsUp_6]
    simp (disch := omega) only [zI_le]
    rw [if_neg (by omega), zI_in (by omega) (by omega), if_pos (by simp only [decide_eq_true_eq]; omega), hcl, hc j (by omega), g1, e1]
    exact k1
theorem m_setsUp {q : Cfg} {s : gS} {mv : Nat → Nat} {n : Nat} (hq : okC q) (hs : MS q s) (hc : CeB s mv n) (hok : okM q mv n) (hn : n ≤ 16) : ∃ t, f_X9_setsUp s (zI n) = some t ∧ StB t (posF mv n) ∧ t.1 27 = zI n ∧ t.1 28 = zI (winF q mv n) ∧ Kp [27, 28] [22] s t := by
  obtain ⟨u, g1, g2, g3, g4, g5⟩ := m_starts s
  obtain ⟨m, hm⟩ := gf_succ
  obtain ⟨t, k1, k2, k3, k4⟩ := m_setsUp1 hq hok hn n gφ 0 u (by omega) (by omega) (hs.kp g5 (by decide)) (fun i hi => by rw [g5.2 20 (by decide)]; exact hc i hi) g2 g3 g4
  have h5 : f_X9_setsUp s (zI n) = some t := by
    unfold f_X9_setsUp
    rw [g1]
    simp only [Option.bind_some]
    rw [zI_0]
    exact k1
  exact ⟨t, h5, k2, k3, k4, fr_X9_setsUp s (zI n) t h5⟩
