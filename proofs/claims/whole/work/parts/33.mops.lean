/-! THE MODEL: words, tale, worth; what changes the game -/
theorem m_forg1 : ∀ (m j φ : Nat) (s : gS), j + m = 17 → m < φ → (∀ i, i < j → s.2 27 i = zI 0) → ∃ t, f_X9_forgets_2 φ s (zI j) = some t ∧ ∀ i, i < 17 → t.2 27 i = zI 0
  | 0, j, φ, s, hj, hf, h => by
    obtain ⟨φ, rfl⟩ : ∃ m, φ = m + 1 := ⟨φ - 1, by omega⟩
    refine ⟨s, ?_, fun i hi => h i (by omega)⟩
    rw [f_X9_forgets_2, zI_17, if_pos (by rw [zI_le (by omega) (by omega) (by omega) (by omega)]; omega)]
  | m + 1, j, φ, s, hj, hf, h => by
    obtain ⟨φ, rfl⟩ : ∃ m, φ = m + 1 := ⟨φ - 1, by omega⟩
    have e0 : (0 &&& 1 : Int32) = zI 0 := by decide
    obtain ⟨t, g1, g2⟩ := m_forg1 m (j + 1) φ (sa s 27 j (zI 0)) (by omega) (by omega) (fun i hi => by
      rw [sa_at]
      by_cases e : i = j
      · rw [if_pos ⟨rfl, e⟩]
      · rw [if_neg (fun g => e g.2)]
        exact h i (by omega))
    refine ⟨t, ?_, g2⟩
    rw [f_X9_forgets_2, zI_17, if_neg (by rw [zI_le (by omega) (by omega) (by omega) (by omega)]; omega), zin (show j < 17 by omega) (by omega), if_pos rfl, zcl (by omega), zsuc, e0]
    exact g1
theorem m_forgets (s : gS) : ∃ t, f_X9_forgets s = some t ∧ (∀ i, i < 17 → t.2 27 i = zI 0) ∧ Kp [] [27] s t := by
  obtain ⟨m, hm⟩ := gf_big
  obtain ⟨t, g1, g2⟩ := m_forg1 17 0 gφ s (by omega) (by omega) (fun i hi => by omega)
  have h : f_X9_forgets s = some t := by
    unfold f_X9_forgets
    rw [zI_0]
    exact g1
  exact ⟨t, h, g2, fr_X9_forgets s t h⟩
theorem Lc.new {q : Cfg} {mv : Nat → Nat} {n D : Nat} {s : gS} (hn : n ≤ 16) (h : ∀ i, i < 17 → s.2 27 i = zI 0) : Lc q mv n D s := fun i hi => Or.inl (h i (by omega))
theorem m_depth {q : Cfg} {mv : Nat → Nat} {n D : Nat} {s : gS} (h : Mg q mv n D s) (hc : Lc q mv n D s) {a : Int} (ha : -2147483648 ≤ a ∧ a < 2147483648) : ∃ u, f_X9_depth s (zI a) = some (zI (if 1 ≤ a ∧ a ≤ 4 then 1 else 0), u) ∧ Mg q mv n (if 1 ≤ a ∧ a ≤ 4 then a.toNat else D) u ∧ Lc q mv n (if 1 ≤ a ∧ a ≤ 4 then a.toNat else D) u ∧ Kp [24] [27] s u := by
  have hN := okC_n h.1
  have hn := okM_n h.2.2.2.1
  unfold f_X9_depth
  rw [zI_1, zI_4, m_in ha (by omega) (by omega), ob9, ← zI_1, if10]
  by_cases c1 : 1 ≤ a ∧ a ≤ 4
  · rw [if_pos c1, if_pos c1, if_pos c1]
    obtain ⟨t, g1, g2, g3⟩ := m_forgets (ss s 24 (zI a))
    rw [g1, ob9, zI_1]
    refine ⟨t, rfl, ?_, Lc.new (by omega) g2, Kp.tr (Kp.ss (by decide) Kp.rf) (g3.mo (by decide) (by decide))⟩
    obtain ⟨h0, h1, h2, h3, h4, h5, h6⟩ := h
    refine ⟨h0, MS.kp (s := ss s 24 (zI a)) h1 g3 (by decide), (g3.1 23 (by decide)).trans h2, h3, fun i hi => by rw [g3.2 20 (by decide)]; exact h4 i hi, ?_, by omega, by omega⟩
    rw [g3.1 24 (by decide), ss_n, if_pos rfl]
    exact zI_c (by omega)
  · rw [if_neg c1, if_neg c1, if_neg c1, zI_0]
    exact ⟨s, rfl, h, hc, Kp.rf⟩
theorem m_back {q : Cfg} {mv : Nat → Nat} {n D : Nat} {s : gS} (h : Mg q mv n D s) (hc : Lc q mv n D s) : ∃ u, f_X9_back s = some (zI ((n : Int) - 1), u) ∧ Mg q mv (n - 1) D u ∧ Lc q mv (n - 1) D u ∧ Kp [23] [27] s u := by
  have hN := okC_n h.1
  have hn := okM_n h.2.2.2.1
  unfold f_X9_back
  rw [h.2.2.1]
  by_cases c1 : n = 0
  · subst c1
    rw [if_pos (by rw [zI_0]; rfl), zI_m1]
    exact ⟨s, rfl, h, hc, Kp.rf⟩
  · rw [if_neg (by rw [zI_0, zI_eq (by omega) (by omega) (by omega) (by omega)]; omega), zpr (by omega)]
    obtain ⟨t, g1, g2, g3⟩ := m_forgets (ss s 23 (zI ((n - 1 : Nat) : Int)))
    rw [g1, ob9]
    obtain ⟨h0, h1, h2, h3, h4, h5, h6⟩ := h
    have e23 : t.1 23 = zI ((n - 1 : Nat) : Int) := by rw [g3.1 23 (by decide), ss_n, if_pos rfl]
    refine ⟨t, ?_, ⟨h0, MS.kp (s := ss s 23 (zI ((n - 1 : Nat) : Int))) h1 g3 (by decide), e23, h3.le (by omega), fun i hi => by rw [g3.2 20 (by decide)]; exact h4 i (by omega), (g3.1 24 (by decide)).trans h5, h6⟩, Lc.new (by omega) g2, Kp.tr (Kp.ss (by decide) Kp.rf) (g3.mo (by decide) (by decide))⟩
    rw [e23]
    congr 2
    exact zI_c (by omega)
def mvS (mv : Nat → Nat) (n c : Nat) : Nat → Nat := fun j => if j = n then c else mv j
theorem posF_cong {mv mv2 : Nat → Nat} : ∀ {n : Nat}, (∀ i, i < n → mv i = mv2 i) → posF mv n = posF mv2 n
  | 0, _ => rfl
  | n + 1, h => by
    rw [posF, posF, posF_cong (fun i hi => h i (by omega)), h n (by omega)]
theorem winF_cong {q : Cfg} {mv mv2 : Nat → Nat} : ∀ {n : Nat}, (∀ i, i < n → mv i = mv2 i) → winF q mv n = winF q mv2 n
  | 0, _ => rfl
  | n + 1, h => by
    rw [winF, winF, posF_cong (fun i hi => h i (by omega)), h n (by omega)]
theorem okM_cong {q : Cfg} {mv mv2 : Nat → Nat} {n : Nat} (h : ∀ i, i < n → mv i = mv2 i) (hk : okM q mv n) : okM q mv2 n := fun i hi => by
  have h1 := hk i hi
  rw [← winF_cong (fun j hj => h j (by omega)), ← posF_cong (fun j hj => h j (by omega)), ← h i hi]
  exact h1
theorem mvS_lt {mv : Nat → Nat} {n c i : Nat} (h : i < n) : mvS mv n c i = mv i := by
  unfold mvS
  rw [if_neg (by omega)]
theorem okM_play {q : Cfg} {mv : Nat → Nat} {n c : Nat} (h : okM q mv n) (hw : winF q mv n = 3) (hc : isMv q (posF mv n) c = true) : okM q (mvS mv n c) (n + 1) := by
  intro i hi
  by_cases e : i = n
  · subst e
    rw [winF_cong (mv2 := mv) (fun j hj => mvS_lt hj), posF_cong (mv2 := mv) (fun j hj => mvS_lt hj)]
    have e2 : mvS mv i c i = c := by unfold mvS; rw [if_pos rfl]
    rw [e2]
    exact ⟨hw, hc⟩
  · exact okM_cong (fun j hj => (mvS_lt hj).symm) h i (by omega)
def plF (q : Cfg) (mv : Nat → Nat) (n : Nat) (a : Int) : Bool := decide (winF q mv n = 3 ∧ 0 ≤ a ∧ isMv q (posF mv n) a.toNat = true)
theorem m_play {q : Cfg} {mv : Nat → Nat} {n D : Nat} {s : gS} (h : Mg q mv n D s) (hc : Lc q mv n D s) {a : Int} (ha : -2147483648 ≤ a ∧ a < 2147483648) : ∃ u, f_X9_play s (zI a) = some (zI (if plF q mv n a = true then (n : Int) + 1 else -1), u) ∧ (plF q mv n a = true → Mg q (mvS mv n a.toNat) (n + 1) D u ∧ Lc q (mvS mv n a.toNat) (n + 1) D u) ∧ (plF q mv n a = false → Mg q mv n D u ∧ Lc q mv n D u) ∧ Kp [23, 27, 28] [20, 22, 27] s u := by
  have hN := okC_n h.1
  have hn := okM_n h.2.2.2.1
  have hw := winF_le q mv n
  obtain ⟨r, g1, g2, g3, g4, g5⟩ := h.up (Nat.le_refl n)
  have hr := h.kp g5 (by decide)
  have kr := g5.mo (ks2 := [23, 27, 28]) (as2 := [20, 22, 27]) (by decide) (by decide)
  unfold f_X9_play
  rw [h.2.2.1, g1, ob9, g4]
  by_cases c1 : winF q mv n = 3
  · rw [if_pos (by rw [c1, zI_3]; rfl), m_isMove h.1 hr.2.1 g2 ha, ob9, if10]
    by_cases c2 : 0 ≤ a ∧ isMv q (posF mv n) a.toNat = true
    · have hp : plF q mv n a = true := decide_eq_true ⟨c1, c2⟩
      have hnl := win_lt h.1 h.2.2.2.1 c1
      rw [if_pos c2, hr.2.2.1, zin (show n < 16 by omega) (by omega), if_pos rfl, zcl (by omega), zsuc, hp]
      obtain ⟨t, k1, k2, k3⟩ := m_forgets (ss (sa r 20 n (zI a)) 23 (zI ((n + 1 : Nat) : Int)))
      rw [k1, ob9]
      have e23 : t.1 23 = zI ((n + 1 : Nat) : Int) := by rw [k3.1 23 (by decide), ss_n, if_pos rfl]
      obtain ⟨h0, h1, h2, h3, h4, h5, h6⟩ := hr
      have hok := okM_play h3 c1 c2.2
      refine ⟨t, ?_, fun _ => ⟨⟨h0, MS.kp (s := ss (sa r 20 n (zI a)) 23 (zI ((n + 1 : Nat) : Int))) h1 k3 (by decide), e23, hok, ?_, (k3.1 24 (by decide)).trans h5, h6⟩, Lc.new (by omega) k2⟩, (fun e => nomatch e), Kp.tr kr (Kp.tr (Kp.ss (by decide) (Kp.sa (by decide) Kp.rf)) (k3.mo (by decide) (by decide)))⟩
      · rw [e23, if_pos rfl]
        rfl
      · intro i hi
        rw [k3.2 20 (by decide)]
        show (sa r 20 n (zI a)).2 20 i = _
        rw [sa_at]
        by_cases e : i = n
        · rw [if_pos ⟨rfl, e⟩, e]
          unfold mvS
          rw [if_pos rfl]
          exact zI_c (by omega)
        · rw [if_neg (fun g => e g.2), mvS_lt (by omega)]
          exact h4 i (by omega)
    · have hp : plF q mv n a = false := decide_eq_false (fun g => c2 g.2)
      rw [if_neg c2, hp, zI_m1]
      exact ⟨r, rfl, (fun e => nomatch e), fun _ => ⟨hr, hc.kp g5 (by decide)⟩, kr⟩
  · have hp : plF q mv n a = false := decide_eq_false (fun g => c1 g.1)
    rw [if_neg (by rw [zI_3, zI_eq (by omega) (by omega) (by omega) (by omega)]; omega), hp, zI_m1]
    exact ⟨r, rfl, (fun e => nomatch e), fun _ => ⟨hr, hc.kp g5 (by decide)⟩, kr⟩
/-- the tale -/
def taT (q : Cfg) (mv : Nat → Nat) (n D v : Nat) : Nat → List Nat
  | 0 => []
  | i + 1 => taT q mv n D v i ++ ((if i = 0 then [] else [32]) ++ wdT q mv n D (i + 1) v)
theorem taT_len {q : Cfg} {mv : Nat → Nat} {n D v : Nat} (hq : okC q) (h : okM q mv n) (hD : 1 ≤ D) : ∀ i, i ≤ n → (taT q mv n D v i).length ≤ 17 * i
  | 0, _ => Nat.le_refl 0
  | i + 1, hi => by
    have ih := taT_len (v := v) hq h hD i (by omega)
    have hw := wdT_len (v := v) hq h (show 1 ≤ i + 1 ∧ i + 1 ≤ n by omega) hD
    have hb : (if i = 0 then ([] : List Nat) else [32]).length ≤ 1 := ite_len (by simp) (by simp)
    rw [taT]
    simp only [List.length_append]
    omega
theorem m_words {q : Cfg} {mv : Nat → Nat} {n D : Nat} {T : List Nat} {s : gS} (h : MB q mv n D T s) {a b : Int} (ha : -2147483648 ≤ a ∧ a < 2147483648) (hb : -2147483648 ≤ b ∧ b < 2147483648) : ∃ u, f_X9_words s (zI a) (zI b) = some (zI (if (1 ≤ a ∧ a ≤ n) ∧ 0 ≤ b ∧ b ≤ 1 then ((wdT q mv n D a.toNat b.toNat).length : Int) else -1), u) ∧ MB q mv n D (if (1 ≤ a ∧ a ≤ n) ∧ 0 ≤ b ∧ b ≤ 1 then wdT q mv n D a.toNat b.toNat else T) u ∧ Kp [27, 28, 29] [22, 23, 24, 25, 26, 27, 28] s u := by
  have hN := okC_n h.1.1
  have hn := okM_n h.1.2.2.2.1
  unfold f_X9_words
  rw [h.1.2.2.1, zI_1, m_in ha (by omega) (by omega), ob9, ← zI_1, if10]
  by_cases c1 : 1 ≤ a ∧ a ≤ (n : Int)
  · rw [if_pos c1, zI_0, zI_1, m_in hb (by omega) (by omega), ob9, ← zI_0, ← zI_1, if10]
    by_cases c2 : 0 ≤ b ∧ b ≤ 1
    · rw [if_pos c2, if_pos ⟨c1, c2⟩, if_pos ⟨c1, c2⟩]
      have h2 : MB q mv n D [] (ss s 29 0) := ⟨Mg.kp h.1 (Kp.ss (ks := [29]) (as := []) (by decide) Kp.rf) (by decide), Lc.kp h.2.1 (Kp.ss (ks := [29]) (as := []) (by decide) Kp.rf) (by decide), by rw [zI_0]; rfl, fun j hj => by simp at hj⟩
      obtain ⟨u, g1, g2, g3⟩ := mb_move (i := a.toNat) (v := b.toNat) h2 (by omega) (by omega) (by simp)
      have e1 : ((a.toNat : Nat) : Int) = a := by omega
      have e2 : ((b.toNat : Nat) : Int) = b := by omega
      rw [e1, e2] at g1
      rw [g1, ob9]
      rw [List.nil_append] at g2
      exact ⟨u, by rw [g2.2.2.1], g2, Kp.tr (Kp.ss (by decide) Kp.rf) g3⟩
    · rw [if_neg c2, if_neg (fun g => c2 g.2), if_neg (fun g => c2 g.2), zI_m1]
      exact ⟨s, rfl, h, Kp.rf⟩
  · rw [if_neg c1, if_neg (fun g => c1 g.1), if_neg (fun g => c1 g.1), zI_m1]
    exact ⟨s, rfl, h, Kp.rf⟩
theorem m_tale1 {q : Cfg} {mv : Nat → Nat} {n D v : Nat} (hv : v ≤ 1) : ∀ (m i φ : Nat) (s : gS), i + m = n → m < φ → MB q mv n D (taT q mv n D v i) s → ∃ u, f_X9_tale_18 φ s (zI v) (zI ((i + 1 : Nat) : Int)) = some (zI (taT q mv n D v n).length, u) ∧ MB q mv n D (taT q mv n D v n) u ∧ Kp [27, 28, 29] [22, 23, 24, 25, 26, 27, 28] s u
  | 0, i, φ, s, hi, hf, h => by
    obtain ⟨φ, rfl⟩ : ∃ m, φ = m + 1 := ⟨φ - 1, by omega⟩
    have hN := okC_n h.1.1
    have hn := okM_n h.1.2.2.2.1
    have e : i = n := by omega
    subst e
    rw [f_X9_tale_18, h.1.2.2.1, if_pos (by rw [zI_lt (by omega) (by omega) (by omega) (by omega)]; omega), h.2.2.1]
    exact ⟨s, rfl, h, Kp.rf⟩
  | m + 1, i, φ, s, hi, hf, h => by
    obtain ⟨φ, rfl⟩ : ∃ m, φ = m + 1 := ⟨φ - 1, by omega⟩
    have hN := okC_n h.1.1
    have hn := okM_n h.1.2.2.2.1
    have hD := h.1.2.2.2.2.2.2
    have hl := taT_len (v := v) h.1.1 h.1.2.2.2.1 hD.1 i (by omega)
    have step : ∀ {s : gS} {T : List Nat}, MB q mv n D T s → T.length < 550 → T ++ wdT q mv n D (i + 1) v = taT q mv n D v (i + 1) → ∃ u, f_X9_tale_37 (f_X9_tale_18 φ) s (zI v) (zI ((i + 1 : Nat) : Int)) = some (zI (taT q mv n D v n).length, u) ∧ MB q mv n D (taT q mv n D v n) u ∧ Kp [27, 28, 29] [22, 23, 24, 25, 26, 27, 28] s u := by
      intro s T h hT hw
      obtain ⟨u, g1, g2, g3⟩ := mb_move (i := i + 1) (v := v) h (by omega) hv hT
      rw [hw] at g2
      obtain ⟨t, k1, k2, k3⟩ := m_tale1 hv m (i + 1) φ u (by omega) (by omega) g2
      unfold f_X9_tale_37
      rw [g1, ob9, zsuc]
      exact ⟨t, k1, k2, g3.tr k3⟩
    rw [f_X9_tale_18, h.1.2.2.1, if_neg (by rw [zI_lt (by omega) (by omega) (by omega) (by omega)]; omega)]
    by_cases c1 : i = 0
    · rw [if_pos (by rw [zI_1, zI_le (by omega) (by omega) (by omega) (by omega)]; omega)]
      exact step h (by omega) (by rw [taT, if_pos c1, List.nil_append])
    · rw [if_neg (by rw [zI_1, zI_le (by omega) (by omega) (by omega) (by omega)]; omega)]
      obtain ⟨u, g1, g2, g3⟩ := mb_says (b := 32) h (by omega) (by omega)
      rw [zI_32, show zI (32 : Int) = zI ((32 : Nat) : Int) from rfl, g1, ob9]
      obtain ⟨t, k1, k2, k3⟩ := step g2 (by simp; omega) (by rw [taT, if_neg c1, List.append_assoc])
      exact ⟨t, k1, k2, g3.tr k3⟩
theorem m_tale {q : Cfg} {mv : Nat → Nat} {n D : Nat} {T : List Nat} {s : gS} (h : MB q mv n D T s) {b : Int} (hb : -2147483648 ≤ b ∧ b < 2147483648) : ∃ u, f_X9_tale s (zI b) = some (zI (if 0 ≤ b ∧ b ≤ 1 then ((taT q mv n D b.toNat n).length : Int) else -1), u) ∧ MB q mv n D (if 0 ≤ b ∧ b ≤ 1 then taT q mv n D b.toNat n else T) u ∧ Kp [27, 28, 29] [22, 23, 24, 25, 26, 27, 28] s u := by
  have hN := okC_n h.1.1
  have hn := okM_n h.1.2.2.2.1
  obtain ⟨m, hm⟩ := gf_big
  unfold f_X9_tale
  rw [zI_0, zI_1, m_in hb (by omega) (by omega), ob9, ← zI_0, ← zI_1, if10]
  by_cases c2 : 0 ≤ b ∧ b ≤ 1
  · rw [if_pos c2, if_pos c2, if_pos c2]
    have h2 : MB q mv n D [] (ss s 29 0) := ⟨Mg.kp h.1 (Kp.ss (ks := [29]) (as := []) (by decide) Kp.rf) (by decide), Lc.kp h.2.1 (Kp.ss (ks := [29]) (as := []) (by decide) Kp.rf) (by decide), by rw [zI_0]; rfl, fun j hj => by simp at hj⟩
    obtain ⟨u, g1, g2, g3⟩ := m_tale1 (v := b.toNat) (by omega) n 0 gφ (ss s 29 0) (by omega) (by omega) h2
    have e2 : ((b.toNat : Nat) : Int) = b := by omega
    rw [e2, Nat.zero_add, show zI ((1 : Nat) : Int) = 1 from zI_1.symm] at g1
    exact ⟨u, g1, g2, Kp.tr (Kp.ss (by decide) Kp.rf) g3⟩
  · rw [if_neg c2, if_neg c2, if_neg c2, zI_m1]
    exact ⟨s, rfl, h, Kp.rf⟩
