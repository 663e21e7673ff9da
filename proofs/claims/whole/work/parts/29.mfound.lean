/-! THE MODEL: best, wins, leader, and what is found of a move -/
def bstF (f : Nat → Int) : Nat → Int × Int
  | 0 => (-2, -1)
  | c + 1 => if f c ≤ (bstF f c).1 ∨ f c = -3 then bstF f c else (f c, c)
theorem bhF_rng {q : Cfg} {mv : Nat → Nat} {i c d : Nat} (hq : okC q) (h : okM q mv i) : -3 ≤ bhF q mv i c d ∧ bhF q mv i c d ≤ 1 := by
  unfold bhF
  by_cases e : winF q mv i = 3 ∧ isMv q (posF mv i) c = true
  · rw [if_pos e]
    have := mvF_rng (d := d) (okM_okP h) (win_lt hq h e.1) e.2
    omega
  · rw [if_neg e]; omega
theorem bstF_rng {f : Nat → Int} (hf : ∀ c, -3 ≤ f c ∧ f c ≤ 1) : ∀ c, (-2 ≤ (bstF f c).1 ∧ (bstF f c).1 ≤ 1) ∧ -1 ≤ (bstF f c).2 ∧ (bstF f c).2 < (c : Int) + 1
  | 0 => by constructor <;> constructor <;> simp [bstF]
  | c + 1 => by
    have ih := bstF_rng hf c
    have h1 := hf c
    rw [bstF]
    by_cases e : f c ≤ (bstF f c).1 ∨ f c = -3
    · rw [if_pos e]; omega
    · rw [if_neg e]; exact ⟨⟨by omega, h1.2⟩, by omega, by show (c : Int) < _; omega⟩
theorem m_best1 {q : Cfg} {mv : Nat → Nat} {n D i d : Nat} (hi : i ≤ n) (hd : 1 ≤ d ∧ d ≤ 5) : ∀ (m c φ : Nat) (s : gS), c + m = cN q → m < φ → Mg q mv n D s → ∃ u, f_X9_best_32 φ s (zI i) (zI d) (zI (bstF (fun c => bhF q mv i c (d - 1)) c).1) (zI (bstF (fun c => bhF q mv i c (d - 1)) c).2) (zI c) = some (zI (bstF (fun c => bhF q mv i c (d - 1)) (cN q)).2, u) ∧ Kp [27, 28] [22, 23, 24, 25] s u
  | 0, c, φ, s, hc, hf, h => by
    obtain ⟨φ, rfl⟩ : ∃ m, φ = m + 1 := ⟨φ - 1, by omega⟩
    have hN := okC_n h.1
    refine ⟨s, ?_, Kp.rf⟩
    rw [f_X9_best_32, h.2.1.1, h.2.1.2.1, cN_z, if_pos (by rw [zI_le (by omega) (by omega) (by omega) (by omega)]; omega)]
    have e : c = cN q := by omega
    rw [e]
  | m + 1, c, φ, s, hc, hf, h => by
    obtain ⟨φ, rfl⟩ : ∃ m, φ = m + 1 := ⟨φ - 1, by omega⟩
    have hN := okC_n h.1
    have hr := fun c => bhF_rng (c := c) (d := d - 1) h.1 (h.2.2.2.1.le hi)
    have hb := bstF_rng hr c
    have hc1 := hr c
    obtain ⟨u, g1, g2⟩ := m_behind h hi (show c < cN q by omega) (show d - 1 ≤ 4 by omega)
    obtain ⟨t, k1, k2⟩ := m_best1 hi hd m (c + 1) φ u (by omega) (by omega) (h.kp g2 (by decide))
    refine ⟨t, ?_, g2.tr k2⟩
    rw [f_X9_best_32, h.2.1.1, h.2.1.2.1, cN_z, if_neg (by rw [zI_le (by omega) (by omega) (by omega) (by omega)]; omega)]
    have e1 : zI (d : Int) - 1 = zI ((d - 1 : Nat) : Int) := by rw [zI_1, zI_sub]; exact zI_c (by omega)
    rw [e1, g1]
    simp only [Option.bind_some]
    unfold f_X9_best_81
    rw [zsuc]
    rw [bstF] at k1
    by_cases e2 : bhF q mv i c (d - 1) ≤ (bstF (fun c => bhF q mv i c (d - 1)) c).1
    · rw [if_pos (by rw [zI_le (by omega) (by omega) (by omega) (by omega)]; exact e2)]
      rw [if_pos (Or.inl e2)] at k1
      exact k1
    · rw [if_neg (by rw [zI_le (by omega) (by omega) (by omega) (by omega)]; exact e2), zI_m3]
      by_cases e3 : bhF q mv i c (d - 1) = -3
      · omega
      · rw [if_neg (by rw [zI_eq (by omega) (by omega) (by omega) (by omega)]; exact e3)]
        rw [if_neg (by
          intro g
          rcases g with g | g
          · exact e2 g
          · exact e3 g)] at k1
        exact k1
theorem m_best {q : Cfg} {mv : Nat → Nat} {n D : Nat} {s : gS} (h : Mg q mv n D s) {a b : Int} (ha : -2147483648 ≤ a ∧ a < 2147483648) (hb : -2147483648 ≤ b ∧ b < 2147483648) : ∃ u, f_X9_best s (zI a) (zI b) = some (zI (if (0 ≤ a ∧ a ≤ n) ∧ 1 ≤ b ∧ b ≤ 5 then (bstF (fun c => bhF q mv a.toNat c (b.toNat - 1)) (cN q)).2 else -1), u) ∧ Kp [27, 28] [22, 23, 24, 25] s u := by
  have hN := okC_n h.1
  have hn := okM_n h.2.2.2.1
  unfold f_X9_best
  rw [h.2.2.1, zI_0, m_in ha (by omega) (by omega)]
  simp only [Option.bind_some]
  rw [← zI_0, if10]
  by_cases c1 : 0 ≤ a ∧ a ≤ (n : Int)
  · rw [if_pos c1, zI_1, zI_5, m_in hb (by omega) (by omega)]
    simp only [Option.bind_some]
    rw [← zI_1, if10]
    by_cases c2 : 1 ≤ b ∧ b ≤ 5
    · rw [if_pos c2, if_pos ⟨c1, c2⟩]
      obtain ⟨m, hm⟩ := gf_big
      obtain ⟨u, g1, g2⟩ := m_best1 (q := q) (mv := mv) (D := D) (i := a.toNat) (d := b.toNat) (n := n) (by omega) (by omega) (cN q) 0 gφ s (by omega) (by omega) h
      have e1 : ((a.toNat : Nat) : Int) = a := by omega
      have e2 : ((b.toNat : Nat) : Int) = b := by omega
      rw [e1, e2] at g1
      rw [zI_m2, zI_m1, zI_0]
      exact ⟨u, g1, g2⟩
    · rw [if_neg c2, if_neg (fun g => c2 g.2)]
      exact ⟨s, by rw [zI_m1], Kp.rf⟩
  · rw [if_neg c1, if_neg (fun g => c1 g.1)]
    exact ⟨s, by rw [zI_m1], Kp.rf⟩
def wbF (q : Cfg) (p : Nat → Nat) (v c : Nat) : Bool := !cL q && isMv q p c && rowAt q p v c
def cntF (f : Nat → Bool) : Nat → Nat
  | 0 => 0
  | m + 1 => cntF f m + (if f m = true then 1 else 0)
theorem cntF_le (f : Nat → Bool) : ∀ m, cntF f m ≤ m
  | 0 => Nat.le_refl 0
  | m + 1 => by
    rw [cntF]
    have := cntF_le f m
    by_cases e : f m = true
    · rw [if_pos e]; omega
    · rw [if_neg e]; omega
theorem m_winsBy {q : Cfg} {s : gS} {p : Nat → Nat} {v c : Nat} (hq : okC q) (hs : MS q s) (hp : StB s p) (hv : v ≤ 2) (hc : c < cN q) : f_X9_winsBy s (zI c) (zI v) = some (if wbF q p v c = true then 1 else 0) := by
  have hN := okC_n hq
  unfold f_X9_winsBy wbF
  rw [hs.2.2.2.2]
  cases hl : cL q with
  | true =>
    rw [if_neg (by decide), if_neg (by intro g; cases g)]
  | false =>
    rw [if_pos (by decide), m_isMove hq hs hp (by omega)]
    simp only [Option.bind_some]
    rw [if10]
    by_cases c1 : isMv q p c = true
    · rw [if_pos ⟨by omega, c1⟩, m_makesRow hq hs hp hv hc]
      simp only [Option.bind_some]
      by_cases c2 : rowAt q p v c = true
      · rw [if_pos c2, if_pos (by decide), if_pos (by rw [c1, c2]; rfl)]
      · rw [if_neg c2, if_pos (by decide), if_neg (by
          intro g
          simp at g
          exact c2 g.2)]
    · rw [if_neg (fun g => c1 g.2), if_neg (by
        intro g
        simp at g
        exact c1 g.1)]
theorem m_wins1 {q : Cfg} {s : gS} {p : Nat → Nat} {v : Nat} (hq : okC q) (hs : MS q s) (hp : StB s p) (hv : v ≤ 2) : ∀ (m c φ : Nat), c + m = cN q → m < φ → f_X9_wins_4 φ s (zI v) (zI (cntF (wbF q p v) c)) (zI c) = some (zI (cntF (wbF q p v) (cN q)))
  | 0, c, φ, hc, hf => by
    obtain ⟨φ, rfl⟩ : ∃ m, φ = m + 1 := ⟨φ - 1, by omega⟩
    have hN := okC_n hq
    have e : c = cN q := by omega
    rw [f_X9_wins_4, hs.1, hs.2.1, cN_z, if_pos (by rw [zI_le (by omega) (by omega) (by omega) (by omega)]; omega), e]
  | m + 1, c, φ, hc, hf => by
    obtain ⟨φ, rfl⟩ : ∃ m, φ = m + 1 := ⟨φ - 1, by omega⟩
    have hN := okC_n hq
    have ih := m_wins1 hq hs hp hv m (c + 1) φ (by omega) (by omega)
    rw [f_X9_wins_4, hs.1, hs.2.1, cN_z, if_neg (by rw [zI_le (by omega) (by omega) (by omega) (by omega)]; omega), m_winsBy hq hs hp hv (by omega)]
    simp only [Option.bind_some]
    rw [if10]
    rw [cntF] at ih
    unfold f_X9_wins_32
    rw [zsuc c]
    by_cases c1 : wbF q p v c = true
    · rw [if_pos c1]
      rw [if_pos c1] at ih
      rw [zI_1, zI_add]
      exact ih
    · rw [if_neg c1]
      rw [if_neg c1] at ih
      rw [zI_0, zI_add]
      exact ih
theorem m_wins {q : Cfg} {s : gS} {p : Nat → Nat} {v : Nat} (hq : okC q) (hs : MS q s) (hp : StB s p) (hv : v ≤ 2) : f_X9_wins s (zI v) = some (zI (cntF (wbF q p v) (cN q))) := by
  obtain ⟨m, hm⟩ := gf_big
  have hN := okC_n hq
  unfold f_X9_wins
  rw [zI_0]
  exact m_wins1 hq hs hp hv (cN q) 0 gφ (by omega) (by omega)
def ldF (q : Cfg) (mv : Nat → Nat) (D i : Nat) : Nat := if vlF q mv i D = 0 then 2 else if vlF q mv i D = 1 then i % 2 else 1 - i % 2
/-- what the model keeps of leaders -/
def Lc (q : Cfg) (mv : Nat → Nat) (n D : Nat) (s : gS) : Prop := ∀ i, i ≤ n → s.2 27 i = zI 0 ∨ (s.2 27 i = zI 1 ∧ s.2 26 i = zI (ldF q mv D i))
theorem Lc.kp {q : Cfg} {mv : Nat → Nat} {n D : Nat} {s t : gS} {ks as : List Nat} (h : Lc q mv n D s) (hk : Kp ks as s t) (hd : 26 ∉ as ∧ 27 ∉ as) : Lc q mv n D t := fun i hi => by
  rw [hk.2 _ hd.1, hk.2 _ hd.2]
  exact h i hi
theorem ldF_le (q : Cfg) (mv : Nat → Nat) (D i : Nat) : ldF q mv D i ≤ 2 := by
  unfold ldF
  by_cases e : vlF q mv i D = 0
  · rw [if_pos e]; omega
  · rw [if_neg e]
    by_cases e2 : vlF q mv i D = 1
    · rw [if_pos e2]; omega
    · rw [if_neg e2]; omega
theorem m_leader1 {q : Cfg} {mv : Nat → Nat} {n D : Nat} {s : gS} (h : Mg q mv n D s) (hc : Lc q mv n D s) {i : Nat} (hi : i ≤ n) : ∃ u, f_X9_leader s (zI i) = some (zI (ldF q mv D i), u) ∧ Lc q mv n D u ∧ Kp [27, 28] [22, 23, 24, 25, 26, 27] s u := by
  have hN := okC_n h.1
  have hn := okM_n h.2.2.2.1
  have hv := vlF_rng D h.1 (h.2.2.2.1.le hi)
  unfold f_X9_leader
  rw [h.2.2.1, zI_0, m_in (by omega) (by omega) (by omega)]
  simp only [Option.bind_some]
  rw [← zI_0, if10, if_pos (by omega), zin (show i < 17 by omega) (by omega), if_pos rfl, zcl (by omega)]
  by_cases c1 : s.2 27 i = 0
  · rw [if_pos c1]
    obtain ⟨r, u, g1, g0, g2, g3⟩ := m_valAt h hi (d := D) (by have := h.2.2.2.2.2.2.2; omega)
    rw [g1]
    simp only [Option.bind_some]
    rw [g0, g2]
    simp only [Option.bind_some]
    have h66 : ∀ z : Int32, f_X9_leader_66 u (zI i) (zI i) z = some (z, sa (sa u 26 i z) 27 i (1 &&& 1)) := by
      intro z
      unfold f_X9_leader_66 f_X9_leader_74
      rw [zin (show i < 17 by omega) (by omega), if_pos rfl, if_pos rfl, if_pos rfl, zcl (by omega)]
      simp [sa_at]
    have fin : ∀ z : Nat, z = ldF q mv D i → ∃ w, some (zI z, sa (sa u 26 i (zI z)) 27 i (1 &&& 1)) = some (zI (ldF q mv D i), w) ∧ Lc q mv n D w ∧ Kp [27, 28] [22, 23, 24, 25, 26, 27] s w := by
      intro z hz
      rw [hz]
      refine ⟨_, rfl, fun j hj => ?_, Kp.sa (by decide) (Kp.sa (by decide) (g3.mo (by decide) (by decide)))⟩
      by_cases e : j = i
      · right
        subst e
        have : (1 &&& 1 : Int32) = zI 1 := by decide
        rw [this]
        simp [sa_at]
      · have h9 := hc j hj
        rw [← g3.2 26 (by decide), ← g3.2 27 (by decide)] at h9
        simpa [sa_at, e] using h9
    have ld : ldF q mv D i = if vlF q mv i D = 0 then 2 else if vlF q mv i D = 1 then i % 2 else 1 - i % 2 := rfl
    by_cases e1 : vlF q mv i D = 0
    · rw [if_pos (by rw [e1, zI_0]), h66, zI_2]
      exact fin 2 (by rw [ld, if_pos e1])
    · rw [if_neg (by rw [zI_0, zI_eq (by omega) (by omega) (by omega) (by omega)]; exact e1)]
      by_cases e2 : vlF q mv i D = 1
      · rw [if_pos (by rw [e2, zI_1]), zI_par (by omega), h66]
        exact fin (i % 2) (by rw [ld, if_neg e1, if_pos e2])
      · rw [if_neg (by rw [zI_1, zI_eq (by omega) (by omega) (by omega) (by omega)]; exact e2), zI_par (by omega), h66]
        have e3 : (1 : Int32) - zI ((i % 2 : Nat) : Int) = zI ((1 - i % 2 : Nat) : Int) := by rw [zI_1, zI_sub]; exact zI_c (by omega)
        rw [e3]
        exact fin (1 - i % 2) (by rw [ld, if_neg e1, if_neg e2])
  · rw [if_neg c1]
    unfold f_X9_leader_74
    rw [zin (show i < 17 by omega) (by omega), if_pos rfl, zcl (by omega)]
    rcases hc i hi with g | g
    · rw [zI_0] at c1
      exact absurd g c1
    · rw [g.2]
      exact ⟨s, rfl, hc, Kp.rf⟩
theorem m_leader {q : Cfg} {mv : Nat → Nat} {n D : Nat} {s : gS} (h : Mg q mv n D s) (hc : Lc q mv n D s) {a : Int} (ha : -2147483648 ≤ a ∧ a < 2147483648) : ∃ u, f_X9_leader s (zI a) = some (zI (if 0 ≤ a ∧ a ≤ n then (ldF q mv D a.toNat : Int) else -1), u) ∧ Lc q mv n D u ∧ Kp [27, 28] [22, 23, 24, 25, 26, 27] s u := by
  have hN := okC_n h.1
  have hn := okM_n h.2.2.2.1
  by_cases c1 : 0 ≤ a ∧ a ≤ (n : Int)
  · rw [if_pos c1]
    have h1 := m_leader1 h hc (i := a.toNat) (by omega)
    have e1 : ((a.toNat : Nat) : Int) = a := by omega
    rw [e1] at h1
    exact h1
  · rw [if_neg c1]
    unfold f_X9_leader
    rw [h.2.2.1, zI_0, m_in ha (by omega) (by omega)]
    simp only [Option.bind_some]
    rw [← zI_0, if10, if_neg c1, zI_m1]
    exact ⟨s, rfl, hc, Kp.rf⟩
/-- the turn -/
def tuF (q : Cfg) (mv : Nat → Nat) (n D i : Nat) : Bool := decide (ldF q mv D i ≠ 2 ∧ (∀ j, j ≤ n → i < j → ldF q mv D j = ldF q mv D i) ∧ (i = 1 ∨ ldF q mv D (i - 1) ≠ ldF q mv D i))
theorem m_turn1 {q : Cfg} {mv : Nat → Nat} {n D i : Nat} (hi : 1 ≤ i ∧ i ≤ n) (h2 : ldF q mv D i ≠ 2) : ∀ (m k φ : Nat) (s : gS), k + m = n + 1 → m < φ → i < k → (∀ j, i < j → j < k → ldF q mv D j = ldF q mv D i) → Mg q mv n D s → Lc q mv n D s → ∃ u, f_X9_turn_17 φ s (zI i) (zI (ldF q mv D i)) (zI k) = some (zI (bI (tuF q mv n D i)), u) ∧ Lc q mv n D u ∧ Kp [27, 28] [22, 23, 24, 25, 26, 27] s u
  | 0, k, φ, s, hk, hf, hik, hj, h, hc => by
    obtain ⟨φ, rfl⟩ : ∃ m, φ = m + 1 := ⟨φ - 1, by omega⟩
    have hN := okC_n h.1
    have hn := okM_n h.2.2.2.1
    have hl := ldF_le q mv D i
    have hall : ∀ j, j ≤ n → i < j → ldF q mv D j = ldF q mv D i := fun j g1 g2 => hj j g2 (by omega)
    rw [f_X9_turn_17, h.2.2.1, if_pos (by rw [zI_lt (by omega) (by omega) (by omega) (by omega)]; omega)]
    by_cases c1 : i = 1
    · rw [if_pos (by rw [c1, zI_1]; rfl)]
      refine ⟨s, ?_, hc, Kp.rf⟩
      have e : tuF q mv n D i = true := by
        unfold tuF
        rw [decide_eq_true_eq]
        exact ⟨h2, hall, Or.inl c1⟩
      rw [e, zI_1]
      rfl
    · rw [if_neg (by rw [zI_1, zI_eq (by omega) (by omega) (by omega) (by omega)]; omega)]
      have e1 : zI (i : Int) - 1 = zI ((i - 1 : Nat) : Int) := by rw [zI_1, zI_sub]; exact zI_c (by omega)
      have hl2 := ldF_le q mv D (i - 1)
      obtain ⟨u, g1, g2, g3⟩ := m_leader1 h hc (i := i - 1) (by omega)
      rw [e1, g1]
      simp only [Option.bind_some]
      refine ⟨u, ?_, g2, g3⟩
      by_cases c2 : ldF q mv D (i - 1) = ldF q mv D i
      · rw [if_pos (by rw [c2])]
        have e : tuF q mv n D i = false := by
          unfold tuF
          rw [decide_eq_false_iff_not]
          intro g
          rcases g.2.2 with g | g
          · exact c1 g
          · exact g c2
        rw [e, zI_0]
        rfl
      · rw [if_neg (by rw [zI_eq (by omega) (by omega) (by omega) (by omega)]; omega)]
        have e : tuF q mv n D i = true := by
          unfold tuF
          rw [decide_eq_true_eq]
          exact ⟨h2, hall, Or.inr c2⟩
        rw [e, zI_1]
        rfl
  | m + 1, k, φ, s, hk, hf, hik, hj, h, hc => by
    obtain ⟨φ, rfl⟩ : ∃ m, φ = m + 1 := ⟨φ - 1, by omega⟩
    have hN := okC_n h.1
    have hn := okM_n h.2.2.2.1
    have hl := ldF_le q mv D i
    have hl2 := ldF_le q mv D k
    rw [f_X9_turn_17, h.2.2.1, if_neg (by rw [zI_lt (by omega) (by omega) (by omega) (by omega)]; omega)]
    obtain ⟨u, g1, g2, g3⟩ := m_leader1 h hc (i := k) (by omega)
    rw [g1]
    simp only [Option.bind_some]
    by_cases c2 : ldF q mv D k = ldF q mv D i
    · rw [if_pos (by rw [c2]), zsuc]
      obtain ⟨t, k1, k2, k3⟩ := m_turn1 hi h2 m (k + 1) φ u (by omega) (by omega) (by omega) (fun j j1 j2 => by
        by_cases e : j = k
        · rw [e]; exact c2
        · exact hj j j1 (by omega)) (h.kp g3 (by decide)) g2
      exact ⟨t, k1, k2, g3.tr k3⟩
    · rw [if_neg (by rw [zI_eq (by omega) (by omega) (by omega) (by omega)]; omega)]
      refine ⟨u, ?_, g2, g3⟩
      have e : tuF q mv n D i = false := by
        unfold tuF
        rw [decide_eq_false_iff_not]
        intro g
        exact c2 (g.2.1 k (by omega) hik)
      rw [e, zI_0]
      rfl
theorem m_turn {q : Cfg} {mv : Nat → Nat} {n D i : Nat} {s : gS} (h : Mg q mv n D s) (hc : Lc q mv n D s) (hi : 1 ≤ i ∧ i ≤ n) : ∃ u, f_X9_turn s (zI i) = some (zI (bI (tuF q mv n D i)), u) ∧ Lc q mv n D u ∧ Kp [27, 28] [22, 23, 24, 25, 26, 27] s u := by
  have hN := okC_n h.1
  have hn := okM_n h.2.2.2.1
  have hl := ldF_le q mv D i
  obtain ⟨u, g1, g2, g3⟩ := m_leader1 h hc (i := i) hi.2
  unfold f_X9_turn
  rw [g1]
  simp only [Option.bind_some]
  by_cases c1 : ldF q mv D i = 2
  · rw [if_pos (by rw [c1, zI_2]; rfl)]
    refine ⟨u, ?_, g2, g3⟩
    have e : tuF q mv n D i = false := by
      unfold tuF
      rw [decide_eq_false_iff_not]
      intro g
      exact g.1 c1
    rw [e, zI_0]
    rfl
  · rw [if_neg (by rw [zI_2, zI_eq (by omega) (by omega) (by omega) (by omega)]; omega), zsuc]
    obtain ⟨m, hm⟩ := gf_big
    obtain ⟨t, k1, k2, k3⟩ := m_turn1 hi c1 (n - i) (i + 1) gφ u (by omega) (by omega) (by omega) (fun j j1 j2 => by omega) (h.kp g3 (by decide)) g2
    exact ⟨t, k1, k2, g3.tr k3⟩
