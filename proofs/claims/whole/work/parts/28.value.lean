/-! THE MODEL: the game that it holds; values, what is behind a move, wins, the leader -/
def Mg (q : Cfg) (mv : Nat → Nat) (n D : Nat) (s : gS) : Prop := okC q ∧ MS q s ∧ s.1 23 = zI n ∧ okM q mv n ∧ CeB s mv n ∧ s.1 24 = zI D ∧ 1 ≤ D ∧ D ≤ 4
theorem Mg.kp {q : Cfg} {mv : Nat → Nat} {n D : Nat} {s t : gS} {ks as : List Nat} (h : Mg q mv n D s) (hk : Kp ks as s t) (hd : (20 ∉ ks ∧ 21 ∉ ks ∧ 22 ∉ ks ∧ 25 ∉ ks ∧ 26 ∉ ks) ∧ 23 ∉ ks ∧ 24 ∉ ks ∧ 20 ∉ as) : Mg q mv n D t := by
  obtain ⟨h0, h1, h2, h3, h4, h5, h6⟩ := h
  exact ⟨h0, h1.kp hk hd.1, (hk.1 _ hd.2.1).trans h2, h3, fun i hi => by rw [hk.2 _ hd.2.2.2]; exact h4 i hi, (hk.1 _ hd.2.2.1).trans h5, h6⟩
theorem nfree_all : ∀ m, nfree (fun _ => 2) m = m
  | 0 => rfl
  | m + 1 => by rw [nfree, nfree_all m]; rfl
theorem okM_okP {q : Cfg} {mv : Nat → Nat} : ∀ {n : Nat}, okM q mv n → okP q (posF mv n) n
  | 0, _ => by
    show nfree (fun _ => 2) (cN q) + 0 = cN q
    rw [nfree_all]
    rfl
  | n + 1, h => (okM_okP (n := n) (h.le (by omega))).set (h n (by omega)).2
theorem okM_n {q : Cfg} {mv : Nat → Nat} {n : Nat} (h : okM q mv n) : n ≤ cN q := by
  have := okM_okP h
  unfold okP at this
  omega
theorem winF_le (q : Cfg) (mv : Nat → Nat) : ∀ n, winF q mv n ≤ 3
  | 0 => Nat.le_refl 3
  | n + 1 => by
    rw [winF]
    by_cases e : rowAt q (posF mv n) (n % 2) (mv n) = true
    · rw [if_pos e]
      by_cases e2 : cL q = true
      · rw [if_pos e2]; omega
      · rw [if_neg e2]; omega
    · rw [if_neg e]
      by_cases e2 : n + 1 = cN q
      · rw [if_pos e2]; omega
      · rw [if_neg e2]; omega
theorem win_lt {q : Cfg} {mv : Nat → Nat} {n : Nat} (hq : okC q) (h : okM q mv n) (hw : winF q mv n = 3) : n < cN q := by
  have h1 := okM_n h
  have hN := okC_n hq
  cases n with
  | zero => omega
  | succ n =>
    rcases Nat.lt_or_ge (n + 1) (cN q) with g | g
    · exact g
    · rw [winF, if_pos (show n + 1 = cN q by omega)] at hw
      by_cases e : rowAt q (posF mv n) (n % 2) (mv n) = true
      · rw [if_pos e] at hw
        by_cases e2 : cL q = true
        · rw [if_pos e2] at hw; omega
        · rw [if_neg e2] at hw; omega
      · rw [if_neg e] at hw
        omega
def vlF (q : Cfg) (mv : Nat → Nat) (i d : Nat) : Int := if winF q mv i = 3 then valF q d (posF mv i) i else endV (winF q mv i) i
theorem endV_rng (w n : Nat) : -1 ≤ endV w n ∧ endV w n ≤ 1 := by
  unfold endV
  by_cases h : w = 2
  · rw [if_pos h]; omega
  · rw [if_neg h]
    by_cases h2 : w = n % 2
    · rw [if_pos h2]; omega
    · rw [if_neg h2]; omega
theorem vlF_rng {q : Cfg} {mv : Nat → Nat} {i : Nat} (d : Nat) (hq : okC q) (h : okM q mv i) : -1 ≤ vlF q mv i d ∧ vlF q mv i d ≤ 1 := by
  unfold vlF
  by_cases e : winF q mv i = 3
  · rw [if_pos e]
    exact valF_rng d _ _ (okM_okP h) (win_lt hq h e)
  · rw [if_neg e]
    exact endV_rng _ _
theorem Mg.up {q : Cfg} {mv : Nat → Nat} {n D : Nat} {s : gS} (h : Mg q mv n D s) {i : Nat} (hi : i ≤ n) : ∃ t, f_X9_setsUp s (zI i) = some t ∧ StB t (posF mv i) ∧ t.1 27 = zI i ∧ t.1 28 = zI (winF q mv i) ∧ Kp [27, 28] [22] s t := by
  have hN := okC_n h.1
  have hn := okM_n h.2.2.2.1
  exact m_setsUp h.1 h.2.1 (fun j hj => h.2.2.2.2.1 j (by omega)) (h.2.2.2.1.le hi) (by omega)
theorem m_valAt {q : Cfg} {mv : Nat → Nat} {n D : Nat} {s : gS} (h : Mg q mv n D s) {i d : Nat} (hi : i ≤ n) (hd : d ≤ 5) : ∃ r u, f_X9_setsUp s (zI i) = some r ∧ r.1 24 = zI D ∧ f_X9_searched r (zI d) = some (zI (vlF q mv i d), u) ∧ Kp [27, 28] [22, 23, 24, 25] s u := by
  obtain ⟨r, g1, g2, g3, g4, g5⟩ := h.up hi
  have hok := h.2.2.2.1.le hi
  obtain ⟨u, k1, k2, k3⟩ := m_searched (d := d) h.1 (h.2.1.kp g5 (by decide)) g2 (okM_okP hok) g3 g4 (winF_le _ _ _) (fun e => win_lt h.1 hok e) hd
  exact ⟨r, u, g1, (g5.1 24 (by decide)).trans h.2.2.2.2.2.1, k1, Kp.tr (g5.mo (by decide) (by decide)) (k3.mo (by decide) (by decide))⟩
theorem m_value {q : Cfg} {mv : Nat → Nat} {n D : Nat} {s : gS} (h : Mg q mv n D s) {a b : Int} (ha : -2147483648 ≤ a ∧ a < 2147483648) (hb : -2147483648 ≤ b ∧ b < 2147483648) : ∃ u, f_X9_value s (zI a) (zI b) = some (zI (if (0 ≤ a ∧ a ≤ n) ∧ 0 ≤ b ∧ b ≤ 5 then vlF q mv a.toNat b.toNat else -2), u) ∧ Kp [27, 28] [22, 23, 24, 25] s u := by
  have hN := okC_n h.1
  have hn := okM_n h.2.2.2.1
  unfold f_X9_value
  rw [h.2.2.1, zI_0, m_in ha (by omega) (by omega)]
  simp only [Option.bind_some]
  rw [← zI_0, if10]
  by_cases c1 : 0 ≤ a ∧ a ≤ (n : Int)
  · rw [if_pos c1, zI_0, zI_5, m_in hb (by omega) (by omega)]
    simp only [Option.bind_some]
    rw [← zI_0, if10]
    by_cases c2 : 0 ≤ b ∧ b ≤ 5
    · rw [if_pos c2, if_pos ⟨c1, c2⟩]
      obtain ⟨r, u, g1, -, g2, g3⟩ := m_valAt h (i := a.toNat) (d := b.toNat) (by omega) (by omega)
      have e1 : ((a.toNat : Nat) : Int) = a := by omega
      have e2 : ((b.toNat : Nat) : Int) = b := by omega
      rw [e1] at g1
      rw [e2] at g2
      rw [g1]
      simp only [Option.bind_some]
      rw [g2]
      exact ⟨u, rfl, g3⟩
    · rw [if_neg c2, if_neg (fun g => c2 g.2)]
      exact ⟨s, by rw [zI_m2], Kp.rf⟩
  · rw [if_neg c1, if_neg (fun g => c1 g.1)]
    exact ⟨s, by rw [zI_m2], Kp.rf⟩
def bhF (q : Cfg) (mv : Nat → Nat) (i c d : Nat) : Int := if winF q mv i = 3 ∧ isMv q (posF mv i) c = true then mvF q d (posF mv i) i c else -3
theorem m_behind {q : Cfg} {mv : Nat → Nat} {n D : Nat} {s : gS} (h : Mg q mv n D s) {i c d : Nat} (hi : i ≤ n) (hc : c < cN q) (hd : d ≤ 4) : ∃ u, f_X9_behind s (zI i) (zI c) (zI d) = some (zI (bhF q mv i c d), u) ∧ Kp [27, 28] [22, 23, 24, 25] s u := by
  have hN := okC_n h.1
  have hn := okM_n h.2.2.2.1
  have hok := h.2.2.2.1.le hi
  have hP := okM_okP hok
  obtain ⟨r, g1, g2, g3, g4, g5⟩ := h.up hi
  have hr : MS q r := h.2.1.kp g5 (by decide)
  have hwl := winF_le q mv i
  unfold f_X9_behind bhF
  rw [g1]
  simp only [Option.bind_some]
  rw [g4]
  by_cases c1 : winF q mv i = 3
  · rw [if_pos (by rw [c1, zI_3]; rfl), m_isMove h.1 hr g2 (by omega)]
    simp only [Option.bind_some]
    rw [if10]
    by_cases c2 : isMv q (posF mv i) c = true
    · rw [if_pos ⟨by omega, c2⟩, if_pos ⟨c1, c2⟩]
      have hil := win_lt h.1 hok c1
      obtain ⟨t, k1, k2, k3, k4, k5⟩ := m_sets h.1 hr g2 g3 (by rw [g4, c1]; rfl) (by omega) hc
      have hP2 := hP.set c2
      rw [k1]
      simp only [Option.bind_some]
      obtain ⟨u, j1, j2, j3⟩ := m_searched (d := d) h.1 (hr.kp k5 (by decide)) k2 hP2 k3 k4 (by
        by_cases e : rowAt q (posF mv i) (i % 2) c = true
        · rw [if_pos e]
          by_cases e2 : cL q = true
          · rw [if_pos e2]; omega
          · rw [if_neg e2]; omega
        · rw [if_neg e]
          by_cases e2 : i + 1 = cN q
          · rw [if_pos e2]; omega
          · rw [if_neg e2]; omega) (fun e => by
        by_cases e1 : i + 1 = cN q
        · rw [if_pos e1] at e
          by_cases e3 : rowAt q (posF mv i) (i % 2) c = true
          · rw [if_pos e3] at e
            by_cases e2 : cL q = true
            · rw [if_pos e2] at e; omega
            · rw [if_neg e2] at e; omega
          · rw [if_neg e3] at e; omega
        · omega) (by omega)
      rw [j1]
      refine ⟨u, ?_, Kp.tr (g5.mo (by decide) (by decide)) (Kp.tr (k5.mo (by decide) (by decide)) (j3.mo (by decide) (by decide)))⟩
      simp only [Option.bind_some]
      rw [zI_neg]
      congr 3
      unfold mvF
      by_cases e : rowAt q (posF mv i) (i % 2) c = true
      · rw [if_pos e, if_pos e]
        by_cases e2 : cL q = true
        · rw [if_pos e2, if_pos e2, if_neg (by omega)]
          unfold endV
          rw [if_neg (by omega), if_pos (by omega)]
        · rw [if_neg e2, if_neg e2, if_neg (by omega)]
          unfold endV
          rw [if_neg (by omega), if_neg (by omega)]
          rfl
      · rw [if_neg e, if_neg e]
        by_cases e2 : i + 1 = cN q
        · rw [if_pos e2, if_pos e2, if_neg (by omega)]
          rfl
        · rw [if_neg e2, if_neg e2, if_pos rfl]
    · rw [if_neg (fun g => c2 g.2), if_neg (fun g => c2 g.2)]
      exact ⟨r, by rw [zI_m3], g5.mo (by decide) (by decide)⟩
  · rw [if_neg (by rw [zI_3, zI_eq (by omega) (by omega) (by omega) (by omega)]; omega), if_neg (fun g => c1 g.1)]
    exact ⟨r, by rw [zI_m3], g5.mo (by decide) (by decide)⟩
