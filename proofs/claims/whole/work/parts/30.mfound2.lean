/-! THE MODEL: found -/
def thF (q : Cfg) (mv : Nat → Nat) (i : Nat) : Nat := if winF q mv i = 3 then cntF (wbF q (posF mv i) ((i - 1) % 2)) (cN q) else 0
def msF (q : Cfg) (mv : Nat → Nat) (i : Nat) : Nat := if wbF q (posF mv (i - 1)) ((i - 1) % 2) (mv (i - 1)) = true then 0 else cntF (wbF q (posF mv (i - 1)) ((i - 1) % 2)) (cN q)
def slF (q : Cfg) (mv : Nat → Nat) (D i : Nat) : Int := vlF q mv (i - 1) D - bhF q mv (i - 1) (mv (i - 1)) (D - 1)
def manyF (f : Nat → Int) : Nat → Nat := cntF (fun c => decide (f c ≠ -3))
def goodF (f : Nat → Int) : Nat → Nat := cntF (fun c => decide (0 ≤ f c))
def foF (q : Cfg) (mv : Nat → Nat) (D i : Nat) : Bool := decide (2 ≤ manyF (fun c => bhF q mv (i - 1) c (D - 1)) (cN q) ∧ goodF (fun c => bhF q mv (i - 1) c (D - 1)) (cN q) = 1 ∧ 0 ≤ bhF q mv (i - 1) (mv (i - 1)) (D - 1))
def wnF (q : Cfg) (mv : Nat → Nat) (i : Nat) : Bool := decide (winF q mv i = (i - 1) % 2)
def fdI (q : Cfg) (mv : Nat → Nat) (n D i : Nat) (k : Int) : Int := if k = 0 then bI (wnF q mv i) else if k = 1 then thF q mv i else if k = 2 then bI (foF q mv D i) else if k = 3 then slF q mv D i else if k = 4 then msF q mv i else bI (tuF q mv n D i)
theorem zpr {i : Nat} (h : 1 ≤ i) : zI (i : Int) - 1 = zI ((i - 1 : Nat) : Int) := by rw [zI_1, zI_sub]; exact zI_c (by omega)
theorem m_threat {q : Cfg} {mv : Nat → Nat} {n D i : Nat} {s : gS} (h : Mg q mv n D s) (hi : 1 ≤ i ∧ i ≤ n) : ∃ u, f_X9_threat s (zI i) = some (zI (thF q mv i), u) ∧ Kp [27, 28] [22, 23, 24, 25] s u := by
  have hN := okC_n h.1
  have hn := okM_n h.2.2.2.1
  obtain ⟨r, g1, g2, g3, g4, g5⟩ := h.up hi.2
  have hw := winF_le q mv i
  unfold f_X9_threat thF
  rw [g1]
  simp only [Option.bind_some]
  rw [g4, zpr hi.1, zI_par (by omega)]
  by_cases c1 : winF q mv i = 3
  · rw [if_pos (by rw [c1, zI_3]; rfl), if_pos c1, m_wins h.1 (h.2.1.kp g5 (by decide)) g2 (by omega)]
    exact ⟨r, rfl, g5.mo (by decide) (by decide)⟩
  · rw [if_neg (by rw [zI_3, zI_eq (by omega) (by omega) (by omega) (by omega)]; omega), if_neg c1, zI_0]
    exact ⟨r, rfl, g5.mo (by decide) (by decide)⟩
theorem m_missed {q : Cfg} {mv : Nat → Nat} {n D i : Nat} {s : gS} (h : Mg q mv n D s) (hi : 1 ≤ i ∧ i ≤ n) : ∃ u, f_X9_missed s (zI i) = some (zI (msF q mv i), u) ∧ Kp [27, 28] [22, 23, 24, 25] s u := by
  have hN := okC_n h.1
  have hn := okM_n h.2.2.2.1
  obtain ⟨r, g1, g2, g3, g4, g5⟩ := h.up (i := i - 1) (by omega)
  have hr := h.2.1.kp g5 (by decide)
  have hcell : r.2 20 (i - 1) = zI (mv (i - 1)) := by rw [g5.2 20 (by decide)]; exact h.2.2.2.2.1 _ (by omega)
  have hm := okM_lt h.2.2.2.1 (show i - 1 < n by omega)
  unfold f_X9_missed msF
  rw [zpr hi.1, g1]
  simp only [Option.bind_some]
  rw [zin (show i - 1 < 16 by omega) (by omega), if_pos rfl, zcl (by omega), hcell, zI_par (by omega), m_winsBy h.1 hr g2 (by omega) hm]
  simp only [Option.bind_some]
  rw [if10]
  by_cases c1 : wbF q (posF mv (i - 1)) ((i - 1) % 2) (mv (i - 1)) = true
  · rw [if_pos c1, if_pos c1, zI_0]
    exact ⟨r, rfl, g5.mo (by decide) (by decide)⟩
  · rw [if_neg c1, if_neg c1, m_wins h.1 hr g2 (by omega)]
    exact ⟨r, rfl, g5.mo (by decide) (by decide)⟩
theorem m_slip {q : Cfg} {mv : Nat → Nat} {n D i : Nat} {s : gS} (h : Mg q mv n D s) (hi : 1 ≤ i ∧ i ≤ n) : ∃ u, f_X9_slip s (zI i) = some (zI (slF q mv D i), u) ∧ Kp [27, 28] [22, 23, 24, 25] s u := by
  have hN := okC_n h.1
  have hn := okM_n h.2.2.2.1
  have hD := h.2.2.2.2.2.2
  have hm := okM_lt h.2.2.2.1 (show i - 1 < n by omega)
  obtain ⟨r, g1, g2⟩ := m_value h (a := ((i - 1 : Nat) : Int)) (b := (D : Int)) (by omega) (by omega)
  rw [if_pos ⟨by omega, by omega⟩] at g1
  have hr := h.kp g2 (by decide)
  obtain ⟨u, k1, k2⟩ := m_behind hr (i := i - 1) (c := mv (i - 1)) (d := D - 1) (by omega) hm (by omega)
  unfold f_X9_slip slF
  rw [zpr hi.1, h.2.2.2.2.2.1, g1]
  simp only [Option.bind_some]
  rw [zin (show i - 1 < 16 by omega) (by omega), if_pos rfl, zcl (by omega), hr.2.2.2.2.1 _ (show i - 1 < n by omega), hr.2.2.2.2.2.1, zpr hD.1, k1]
  simp only [Option.bind_some]
  rw [zI_sub]
  exact ⟨u, rfl, g2.tr k2⟩
theorem m_forced1 {q : Cfg} {mv : Nat → Nat} {n D i : Nat} (hi : 1 ≤ i ∧ i ≤ n) : ∀ (m c φ : Nat) (s : gS), c + m = cN q → m < φ → Mg q mv n D s → ∃ u, f_X9_forced_7 φ s (zI i) (zI (manyF (fun c => bhF q mv (i - 1) c (D - 1)) c)) (zI (goodF (fun c => bhF q mv (i - 1) c (D - 1)) c)) (zI c) = some (zI (bI (foF q mv D i)), u) ∧ Kp [27, 28] [22, 23, 24, 25] s u
  | 0, c, φ, s, hc, hf, h => by
    obtain ⟨φ, rfl⟩ : ∃ m, φ = m + 1 := ⟨φ - 1, by omega⟩
    have hN := okC_n h.1
    have hn := okM_n h.2.2.2.1
    have hD := h.2.2.2.2.2.2
    have hm := okM_lt h.2.2.2.1 (show i - 1 < n by omega)
    have e : c = cN q := by omega
    subst e
    have l1 := cntF_le (fun c => decide (bhF q mv (i - 1) c (D - 1) ≠ -3)) (cN q)
    have l2 := cntF_le (fun c => decide (0 ≤ bhF q mv (i - 1) c (D - 1))) (cN q)
    rw [f_X9_forced_7, h.2.1.1, h.2.1.2.1, cN_z, if_pos (by rw [zI_le (by omega) (by omega) (by omega) (by omega)]; omega)]
    have hM : manyF (fun c => bhF q mv (i - 1) c (D - 1)) (cN q) ≤ cN q := l1
    have hG : goodF (fun c => bhF q mv (i - 1) c (D - 1)) (cN q) ≤ cN q := l2
    have ef : foF q mv D i = decide (2 ≤ manyF (fun c => bhF q mv (i - 1) c (D - 1)) (cN q) ∧ goodF (fun c => bhF q mv (i - 1) c (D - 1)) (cN q) = 1 ∧ 0 ≤ bhF q mv (i - 1) (mv (i - 1)) (D - 1)) := rfl
    have hbr := bhF_rng (c := mv (i - 1)) (d := D - 1) h.1 (h.2.2.2.1.le (show i - 1 ≤ n by omega))
    obtain ⟨u, k1, k2⟩ := m_behind h (i := i - 1) (c := mv (i - 1)) (d := D - 1) (by omega) hm (by omega)
    generalize manyF (fun c => bhF q mv (i - 1) c (D - 1)) (cN q) = a at *
    generalize goodF (fun c => bhF q mv (i - 1) c (D - 1)) (cN q) = b at *
    have no : ∀ {X : Prop} [Decidable X], ¬ X → decide X = false := fun h => by simpa using h
    by_cases c1 : a < 2
    · rw [if_pos (by rw [zI_2, zI_lt (by omega) (by omega) (by omega) (by omega)]; omega), ef, no (by omega), zI_0]
      exact ⟨s, rfl, Kp.rf⟩
    · rw [if_neg (by rw [zI_2, zI_lt (by omega) (by omega) (by omega) (by omega)]; omega)]
      by_cases c2 : b = 1
      · rw [if_pos (by rw [c2, zI_1]; rfl), zpr hi.1, zin (show i - 1 < 16 by omega) (by omega), if_pos rfl, zcl (by omega), h.2.2.2.2.1 _ (show i - 1 < n by omega), h.2.2.2.2.2.1, zpr hD.1, k1]
        simp only [Option.bind_some]
        refine ⟨u, ?_, k2⟩
        by_cases c3 : bhF q mv (i - 1) (mv (i - 1)) (D - 1) < 0
        · rw [if_pos (by rw [zI_0, zI_lt (by omega) (by omega) (by omega) (by omega)]; exact c3), ef, no (by omega), zI_0]
          rfl
        · rw [if_neg (by rw [zI_0, zI_lt (by omega) (by omega) (by omega) (by omega)]; exact c3), ef, decide_eq_true (by omega), zI_1]
          rfl
      · rw [if_neg (by rw [zI_1, zI_eq (by omega) (by omega) (by omega) (by omega)]; omega), ef, no (by omega), zI_0]
        exact ⟨s, rfl, Kp.rf⟩
  | m + 1, c, φ, s, hc, hf, h => by
    obtain ⟨φ, rfl⟩ : ∃ m, φ = m + 1 := ⟨φ - 1, by omega⟩
    have hN := okC_n h.1
    have hn := okM_n h.2.2.2.1
    have hD := h.2.2.2.2.2.2
    have hbr := bhF_rng (c := c) (d := D - 1) h.1 (h.2.2.2.1.le (show i - 1 ≤ n by omega))
    obtain ⟨u, g1, g2⟩ := m_behind h (i := i - 1) (c := c) (d := D - 1) (by omega) (show c < cN q by omega) (by omega)
    obtain ⟨t, k1, k2⟩ := m_forced1 hi m (c + 1) φ u (by omega) (by omega) (h.kp g2 (by decide))
    refine ⟨t, ?_, g2.tr k2⟩
    have em : manyF (fun c => bhF q mv (i - 1) c (D - 1)) (c + 1) = manyF (fun c => bhF q mv (i - 1) c (D - 1)) c + (if bhF q mv (i - 1) c (D - 1) = -3 then 0 else 1) := by
      show cntF _ (c + 1) = _
      rw [cntF]
      congr 1
      by_cases e : bhF q mv (i - 1) c (D - 1) = -3
      · rw [if_pos e, if_neg (by simp [e])]
      · rw [if_neg e, if_pos (by simpa using e)]
    have eg : goodF (fun c => bhF q mv (i - 1) c (D - 1)) (c + 1) = goodF (fun c => bhF q mv (i - 1) c (D - 1)) c + (if bhF q mv (i - 1) c (D - 1) < 0 then 0 else 1) := by
      show cntF _ (c + 1) = _
      rw [cntF]
      congr 1
      by_cases e : bhF q mv (i - 1) c (D - 1) < 0
      · rw [if_pos e, if_neg (by simpa using e)]
      · rw [if_neg e, if_pos (by simp; omega)]
    rw [em, eg] at k1
    rw [f_X9_forced_7, h.2.1.1, h.2.1.2.1, cN_z, if_neg (by rw [zI_le (by omega) (by omega) (by omega) (by omega)]; omega), zpr hi.1, h.2.2.2.2.2.1, zpr hD.1, g1]
    simp only [Option.bind_some]
    unfold f_X9_forced_51 f_X9_forced_64
    rw [zI_m3, zsuc c]
    generalize manyF (fun c => bhF q mv (i - 1) c (D - 1)) c = a at *
    generalize goodF (fun c => bhF q mv (i - 1) c (D - 1)) c = b at *
    have za : ∀ (x y : Nat), zI (x : Int) + zI (y : Int) = zI ((x + y : Nat) : Int) := fun x y => zI_add _ _
    by_cases c1 : bhF q mv (i - 1) c (D - 1) = -3
    · rw [if_pos (by rw [c1]), if_pos (by rw [zI_0, zI_lt (by omega) (by omega) (by omega) (by omega)]; omega), zI_0]
      rw [if_pos c1, if_pos (by omega)] at k1
      have := za a 0
      have := za b 0
      simp only [Int.natCast_zero, Int.ofNat_zero] at *
      simp_all
    · rw [if_neg (by rw [zI_eq (by omega) (by omega) (by omega) (by omega)]; exact c1)]
      rw [if_neg c1] at k1
      by_cases c2 : bhF q mv (i - 1) c (D - 1) < 0
      · rw [if_pos (by rw [zI_0, zI_lt (by omega) (by omega) (by omega) (by omega)]; exact c2), zI_0, zI_1]
        rw [if_pos c2] at k1
        rw [show zI (a : Int) + zI 1 = zI ((a + 1 : Nat) : Int) from za a 1, show zI (b : Int) + zI 0 = zI ((b + 0 : Nat) : Int) from za b 0]
        exact k1
      · rw [if_neg (by rw [zI_0, zI_lt (by omega) (by omega) (by omega) (by omega)]; exact c2), zI_1]
        rw [if_neg c2] at k1
        rw [show zI (a : Int) + zI 1 = zI ((a + 1 : Nat) : Int) from za a 1, show zI (b : Int) + zI 1 = zI ((b + 1 : Nat) : Int) from za b 1]
        exact k1
theorem m_forced {q : Cfg} {mv : Nat → Nat} {n D i : Nat} {s : gS} (h : Mg q mv n D s) (hi : 1 ≤ i ∧ i ≤ n) : ∃ u, f_X9_forced s (zI i) = some (zI (bI (foF q mv D i)), u) ∧ Kp [27, 28] [22, 23, 24, 25] s u := by
  obtain ⟨m, hm⟩ := gf_big
  have hN := okC_n h.1
  unfold f_X9_forced
  rw [zI_0]
  exact m_forced1 hi (cN q) 0 gφ s (by omega) (by omega) h
theorem m_found {q : Cfg} {mv : Nat → Nat} {n D : Nat} {s : gS} (h : Mg q mv n D s) (hc : Lc q mv n D s) {a b : Int} (ha : -2147483648 ≤ a ∧ a < 2147483648) (hb : -2147483648 ≤ b ∧ b < 2147483648) : ∃ u, f_X9_found s (zI a) (zI b) = some (zI (if (1 ≤ a ∧ a ≤ n) ∧ 0 ≤ b ∧ b ≤ 5 then fdI q mv n D a.toNat b else -1), u) ∧ Lc q mv n D u ∧ Kp [27, 28] [22, 23, 24, 25, 26, 27] s u := by
  have hN := okC_n h.1
  have hn := okM_n h.2.2.2.1
  unfold f_X9_found
  rw [h.2.2.1, zI_1, m_in ha (by omega) (by omega)]
  simp only [Option.bind_some]
  rw [← zI_1, if10]
  by_cases c1 : 1 ≤ a ∧ a ≤ (n : Int)
  · rw [if_pos c1]
    obtain ⟨i, rfl⟩ : ∃ i : Nat, a = i := ⟨a.toNat, by omega⟩
    have hi : 1 ≤ i ∧ i ≤ n := by omega
    have ei : ((i : Int)).toNat = i := rfl
    rw [ei]
    simp (disch := omega) only [zI_0, zI_2, zI_3, zI_4, zI_5, zI_eq]
    have e1b : ((zI b = 1)) = (b = 1) := by rw [zI_1, zI_eq (by omega) (by omega) (by omega) (by omega)]
    simp only [e1b]
    unfold fdI
    have mo : ∀ {u : gS}, Kp [27, 28] [22, 23, 24, 25] s u → Lc q mv n D u ∧ Kp [27, 28] [22, 23, 24, 25, 26, 27] s u := fun g => ⟨hc.kp g (by decide), g.mo (by decide) (by decide)⟩
    by_cases k0 : b = 0
    · rw [if_pos k0, if_pos ⟨c1, by omega⟩, if_pos k0]
      obtain ⟨r, g1, g2, g3, g4, g5⟩ := h.up hi.2
      have hw := winF_le q mv i
      rw [g1]
      simp only [Option.bind_some]
      rw [g4, zpr hi.1, ← zI_2, zI_par (by omega)]
      have g6 := mo (g5.mo (ks2 := [27, 28]) (as2 := [22, 23, 24, 25]) (by decide) (by decide))
      refine ⟨r, ?_, g6⟩
      unfold wnF
      by_cases e : winF q mv i = (i - 1) % 2
      · rw [if_pos (by rw [e]), decide_eq_true e, zI_1]
        rfl
      · rw [if_neg (by rw [zI_eq (by omega) (by omega) (by omega) (by omega)]; omega), decide_eq_false e]
        rfl
    · rw [if_neg k0, if_neg k0]
      by_cases k1 : b = 1
      · obtain ⟨u, g1, g2⟩ := m_threat h hi
        rw [if_pos k1, if_pos ⟨c1, by omega⟩, if_pos k1, g1]
        exact ⟨u, rfl, mo g2⟩
      · rw [if_neg k1, if_neg k1]
        by_cases k2 : b = 2
        · obtain ⟨u, g1, g2⟩ := m_forced h hi
          rw [if_pos k2, if_pos ⟨c1, by omega⟩, if_pos k2, g1]
          exact ⟨u, rfl, mo g2⟩
        · rw [if_neg k2, if_neg k2]
          by_cases k3 : b = 3
          · obtain ⟨u, g1, g2⟩ := m_slip h hi
            rw [if_pos k3, if_pos ⟨c1, by omega⟩, if_pos k3, g1]
            exact ⟨u, rfl, mo g2⟩
          · rw [if_neg k3, if_neg k3]
            by_cases k4 : b = 4
            · obtain ⟨u, g1, g2⟩ := m_missed h hi
              rw [if_pos k4, if_pos ⟨c1, by omega⟩, if_pos k4, g1]
              exact ⟨u, rfl, mo g2⟩
            · rw [if_neg k4, if_neg k4]
              by_cases k5 : b = 5
              · obtain ⟨u, g1, g2, g3⟩ := m_turn h hc hi
                rw [if_pos k5, if_pos ⟨c1, by omega⟩, g1]
                exact ⟨u, rfl, g2, g3⟩
              · rw [if_neg k5, if_neg (by omega), zI_m1]
                exact ⟨s, rfl, hc, Kp.rf⟩
  · rw [if_neg c1, if_neg (fun g => c1 g.1), zI_m1]
    exact ⟨s, rfl, hc, Kp.rf⟩
