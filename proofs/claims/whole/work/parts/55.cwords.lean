/-! THE CLASS: words, tale, octet -/
theorem c_level {b : Int} (hb : -2147483648 ≤ b ∧ b < 2147483648) : f_X4_isLevel (zI b) = some (if 0 ≤ b ∧ b ≤ 1 then 1 else 0) := by
  unfold f_X4_isLevel
  by_cases c1 : b = 0
  · rw [if_pos (by rw [c1, zI_0]), if_pos (by omega)]
  · rw [if_neg (by rw [zI_0, zI_eq (by omega) (by omega) (by omega) (by omega)]; omega)]
    by_cases c2 : b = 1
    · rw [if_pos (by rw [c2, zI_1]), if_pos (by omega)]
    · rw [if_neg (by rw [zI_1, zI_eq (by omega) (by omega) (by omega) (by omega)]; omega), if_neg (by omega)]
theorem Cj.to18 {q : Cfg} {mv : Nat → Nat} {n D : Nat} {s u : gS} (h : Cj q mv n D s) (hk : Kp [18] [12] s u) : Cj q mv n D u := by
  obtain ⟨h1, h2, e, h3, h4, h5⟩ := h
  exact ⟨h1.kp hk (by decide), h2.kp hk (by decide), e, h3, (hk.1 10 (by decide)).trans h4, fun i i1 i2 i3 k hk2 => by rw [hk.2 3 (by decide)]; exact h5 i i1 i2 i3 k hk2⟩
theorem c_wordsT {q : Cfg} {mv : Nat → Nat} {n D : Nat} {T : List Nat} {s : gS} (h : Cj q mv n D s) (hT : Tdb s T) {a b : Int} (ha : -2147483648 ≤ a ∧ a < 2147483648) (hb : -2147483648 ≤ b ∧ b < 2147483648) : ∃ u, f_X8_words s (zI a) (zI b) = some (zI (if (1 ≤ a ∧ a ≤ n) ∧ 0 ≤ b ∧ b ≤ 1 then ((wdT q mv n D a.toNat b.toNat).length : Int) else -1), u) ∧ Cj q mv n D u ∧ Tdb u (if (1 ≤ a ∧ a ≤ n) ∧ 0 ≤ b ∧ b ≤ 1 then wdT q mv n D a.toNat b.toNat else T) ∧ Kp [10, 18] [2, 3, 12] s u := by
  unfold f_X8_words
  rw [c_isMv h.1 ha, ob9, if10]
  by_cases c1 : 1 ≤ a ∧ a ≤ n
  · rw [if_pos c1, c_level hb, ob9, if10]
    by_cases c2 : 0 ≤ b ∧ b ≤ 1
    · rw [if_pos c2, if_pos ⟨c1, c2⟩, if_pos ⟨c1, c2⟩]
      obtain ⟨u, u1, u2, u3, u4⟩ := c_exam h
      have k0 : Kp [18] [12] u (ss u 18 0) := Kp.rf.ss (by decide)
      have tb : TBb q mv n D [] (ss u 18 0) := ⟨u2.1.kp k0 (by decide), u3, rfl, fun j hj => by simp at hj⟩
      obtain ⟨v, v1, v2, v3⟩ := tb_wordsb (i := a.toNat) (v := b.toNat) tb (by omega) (by omega) (by simp)
      rw [show ((a.toNat : Nat) : Int) = a by omega, show ((b.toNat : Nat) : Int) = b by omega] at v1
      rw [List.nil_append] at v2
      unfold f_X7_clearb
      rw [u1, ob9, ob9, v1, ob9]
      refine ⟨v, by rw [v2.2.2.1], u2.to18 (k0.tr v3), v2.2.2, (u4.mo (by decide) (by decide)).tr ((k0.tr v3).mo (by decide) (by decide))⟩
    · rw [if_neg c2, if_neg (fun g => c2 g.2), if_neg (fun g => c2 g.2), zI_m1]
      exact ⟨s, rfl, h, hT, Kp.rf⟩
  · rw [if_neg c1, if_neg (fun g => c1 g.1), if_neg (fun g => c1 g.1), zI_m1]
    exact ⟨s, rfl, h, hT, Kp.rf⟩
theorem c_tale1 {q : Cfg} {mv : Nat → Nat} {n D v : Nat} (hv : v ≤ 1) : ∀ (m i φ : Nat) (s : gS), i + m = n → m < φ → TBb q mv n D (taT q mv n D v i) s → ∃ u, f_X8_tale_25 φ s (zI v) (zI ((i + 1 : Nat) : Int)) = some (zI (taT q mv n D v n).length, u) ∧ TBb q mv n D (taT q mv n D v n) u ∧ Kp [18] [12] s u
  | 0, i, φ, s, hi, hf, h => by
    obtain ⟨φ, rfl⟩ : ∃ m, φ = m + 1 := ⟨φ - 1, by omega⟩
    have hn := h.1.n16
    have e : i = n := by omega
    subst e
    rw [f_X8_tale_25, h.1.2.1, if_pos (by rw [zI_lt (by omega) (by omega) (by omega) (by omega)]; omega), h.2.2.1]
    exact ⟨s, rfl, h, Kp.rf⟩
  | m + 1, i, φ, s, hi, hf, h => by
    obtain ⟨φ, rfl⟩ : ∃ m, φ = m + 1 := ⟨φ - 1, by omega⟩
    have hn := h.1.n16
    have hl := taT_len (v := v) h.1.1.1 h.1.2.2.1 h.1.2.2.2.2.2.2.1 i (by omega)
    have step : ∀ {s : gS} {T : List Nat}, TBb q mv n D T s → T.length ≤ 256 → T ++ wdT q mv n D (i + 1) v = taT q mv n D v (i + 1) → ∃ u, f_X8_tale_50 (f_X8_tale_25 φ) s (zI v) (zI ((i + 1 : Nat) : Int)) = some (zI (taT q mv n D v n).length, u) ∧ TBb q mv n D (taT q mv n D v n) u ∧ Kp [18] [12] s u := by
      intro s T h hT hw
      obtain ⟨u, g1, g2, g3⟩ := tb_wordsb (i := i + 1) (v := v) h (by omega) hv hT
      rw [hw] at g2
      obtain ⟨t, k1, k2, k3⟩ := c_tale1 hv m (i + 1) φ u (by omega) (by omega) g2
      unfold f_X8_tale_50
      rw [g1, ob9, zsuc]
      exact ⟨t, k1, k2, g3.tr k3⟩
    rw [f_X8_tale_25, h.1.2.1, if_neg (by rw [zI_lt (by omega) (by omega) (by omega) (by omega)]; omega)]
    by_cases c1 : i = 0
    · rw [if_pos (by rw [zI_1, zI_le (by omega) (by omega) (by omega) (by omega)]; omega)]
      exact step h (by omega) (by rw [taT, if_pos c1, List.nil_append])
    · rw [if_neg (by rw [zI_1, zI_le (by omega) (by omega) (by omega) (by omega)]; omega)]
      obtain ⟨u, g1, g2, g3⟩ := c_byteb (b := 32) h.2.2 (by omega) (by omega)
      rw [zI_32, show zI (32 : Int) = zI ((32 : Nat) : Int) from rfl, g1, ob9]
      obtain ⟨t, k1, k2, k3⟩ := step (h.to g3 g2) (by simp; omega) (by rw [taT, if_neg c1, List.append_assoc])
      exact ⟨t, k1, k2, g3.tr k3⟩
theorem c_taleT {q : Cfg} {mv : Nat → Nat} {n D : Nat} {T : List Nat} {s : gS} (h : Cj q mv n D s) (hT : Tdb s T) {b : Int} (hb : -2147483648 ≤ b ∧ b < 2147483648) : ∃ u, f_X8_tale s (zI b) = some (zI (if 0 ≤ b ∧ b ≤ 1 then ((taT q mv n D b.toNat n).length : Int) else -1), u) ∧ Cj q mv n D u ∧ Tdb u (if 0 ≤ b ∧ b ≤ 1 then taT q mv n D b.toNat n else T) ∧ Kp [10, 18] [2, 3, 12] s u := by
  have hn := h.1.n16
  unfold f_X8_tale
  rw [c_level hb, ob9, if10]
  by_cases c2 : 0 ≤ b ∧ b ≤ 1
  · rw [if_pos c2, if_pos c2, if_pos c2]
    obtain ⟨u, u1, u2, u3, u4⟩ := c_exam h
    have k0 : Kp [18] [12] u (ss u 18 0) := Kp.rf.ss (by decide)
    have tb : TBb q mv n D [] (ss u 18 0) := ⟨u2.1.kp k0 (by decide), u3, rfl, fun j hj => by simp at hj⟩
    obtain ⟨m, hm⟩ := gf_big
    obtain ⟨v, v1, v2, v3⟩ := c_tale1 (v := b.toNat) (by omega) n 0 gφ (ss u 18 0) (by omega) (by omega) tb
    rw [show ((b.toNat : Nat) : Int) = b by omega, Nat.zero_add, show zI ((1 : Nat) : Int) = 1 from zI_1.symm] at v1
    unfold f_X7_clearb
    rw [u1, ob9, ob9, v1]
    exact ⟨v, rfl, u2.to18 (k0.tr v3), v2.2.2, (u4.mo (by decide) (by decide)).tr ((k0.tr v3).mo (by decide) (by decide))⟩
  · rw [if_neg c2, if_neg c2, if_neg c2, zI_m1]
    exact ⟨s, rfl, h, hT, Kp.rf⟩
def ocF (T : List Nat) (a : Int) : Int := if 0 ≤ a ∧ a < T.length then (T.getD a.toNat 0 : Int) else -1
theorem c_octet {T : List Nat} {s : gS} (h : Tdb s T) (hl : T.length ≤ 272) {a : Int} (ha : -2147483648 ≤ a ∧ a < 2147483648) : f_X8_octet s (zI a) = some (zI (ocF T a)) := by
  unfold f_X8_octet f_X7_byteAtb ocF
  rw [h.1]
  by_cases c1 : a < 0
  · rw [if_pos (by rw [zI_0, zI_lt (by omega) (by omega) (by omega) (by omega)]; omega), if_neg (by omega), ob9, zI_m1]
  · rw [if_neg (by rw [zI_0, zI_lt (by omega) (by omega) (by omega) (by omega)]; omega)]
    by_cases c2 : (T.length : Int) ≤ a
    · rw [if_pos (by rw [zI_le (by omega) (by omega) (by omega) (by omega)]; omega), if_neg (by omega), ob9, zI_m1]
    · rw [if_neg (by rw [zI_le (by omega) (by omega) (by omega) (by omega)]; omega), if_neg (by rw [zI_272, zI_le (by omega) (by omega) (by omega) (by omega)]; omega), if_pos (by rw [zI_in (by omega) (by omega)]; simp only [decide_eq_true_eq]; omega), zI_cl (by omega) (by omega), ob9, h.2 _ (by omega), if_pos (by omega)]
theorem m_octet {T : List Nat} {s : gS} (h : Sd s T) (hl : T.length ≤ 272) {a : Int} (ha : -2147483648 ≤ a ∧ a < 2147483648) : f_X9_octet s (zI a) = some (zI (ocF T a)) := by
  unfold f_X9_octet ocF
  rw [h.1, zI_0, zI_1, zI_sub, m_in ha (by omega) (by omega), ob9, ← zI_0, ← zI_1, if10]
  by_cases c1 : 0 ≤ a ∧ a < T.length
  · rw [if_pos (by omega), if_pos c1, if_pos (by rw [zI_in (by omega) (by omega)]; simp only [decide_eq_true_eq]; omega), zI_cl (by omega) (by omega), h.2 _ (by omega)]
  · rw [if_neg (by omega), if_neg c1, zI_m1]
theorem wdT_len2 {q : Cfg} {mv : Nat → Nat} {n D i : Nat} (hq : okC q) (h : okM q mv n) (hi : 1 ≤ i ∧ i ≤ n) (hD : 1 ≤ D) : ((wdT q mv n D i 1).length : Int) = (if i < 10 then 1 else 2) + 3 + fdI q mv n D i 0 + fdI q mv n D i 2 + fdI q mv n D i 3 + fdI q mv n D i 5 + (if fdI q mv n D i 1 = 0 then 0 else if fdI q mv n D i 1 < 10 then 2 else 3) + (if 0 < fdI q mv n D i 4 then 3 else 0) := by
  have hs := slF_rng hq h hi hD
  have e0 : fdI q mv n D i 0 = ((w1 q mv i).length : Int) := by
    show bI (wnF q mv i) = _
    unfold w1
    cases wnF q mv i <;> rfl
  have e2 : fdI q mv n D i 2 = ((w3 q mv D i 1).length : Int) := by
    show bI (foF q mv D i) = _
    unfold w3
    cases foF q mv D i <;> simp [bI]
  have e3 : fdI q mv n D i 3 = ((w4 q mv D i 1).length : Int) := by
    show slF q mv D i = _
    unfold w4
    rw [if_pos rfl, List.length_replicate]
    omega
  have e5 : fdI q mv n D i 5 = ((w6 q mv n D i 1).length : Int) := by
    show bI (tuF q mv n D i) = _
    unfold w6
    cases tuF q mv n D i <;> simp [bI]
  have e1 : (if fdI q mv n D i 1 = 0 then (0 : Int) else if fdI q mv n D i 1 < 10 then 2 else 3) = ((w2 q mv i).length : Int) := by
    show (if (thF q mv i : Int) = 0 then (0 : Int) else if (thF q mv i : Int) < 10 then 2 else 3) = _
    unfold w2 numT
    by_cases c : 0 < thF q mv i
    · rw [if_neg (by omega), if_pos c]
      by_cases c2 : thF q mv i < 10
      · rw [if_pos (by omega), if_pos c2]
        rfl
      · rw [if_neg (by omega), if_neg c2]
        rfl
    · rw [if_pos (by omega), if_neg c]
      rfl
  have e4 : (if 0 < fdI q mv n D i 4 then (3 : Int) else 0) = ((w5 q mv i).length : Int) := by
    show (if 0 < (msF q mv i : Int) then (3 : Int) else 0) = _
    unfold w5
    by_cases c : 0 < msF q mv i
    · rw [if_pos (by omega), if_pos c]
      rfl
    · rw [if_neg (by omega), if_neg c]
      rfl
  have en : ((numT i).length : Int) = if i < 10 then 1 else 2 := by
    unfold numT
    by_cases c : i < 10
    · rw [if_pos c, if_pos c]; rfl
    · rw [if_neg c, if_neg c]; rfl
  rw [e0, e1, e2, e3, e4, e5, ← en]
  unfold wdT
  simp only [List.length_append, List.length_singleton]
  show ((_ + (1 + (2 + _)) : Nat) : Int) = _
  omega
theorem c_lenAll {q : Cfg} {mv : Nat → Nat} {n D i : Nat} {s : gS} (h : Cg q mv n D s) (hA : Am q mv n D s) (hi : 1 ≤ i ∧ i ≤ n) : ∃ u, f_X4_lengthOfAllWords s (zI i) = some (zI (wdT q mv n D i 1).length, u) ∧ Kp [17] [4] s u := by
  unfold f_X4_lengthOfAllWords f_X7_cleara
  rw [ob9]
  have k0 : Kp [17] [4] s (ss s 17 0) := Kp.rf.ss (by decide)
  have tb : TBa q mv n D [] (ss s 17 0) := ⟨h.kp k0 (by decide), hA, rfl, fun j hj => by simp at hj⟩
  obtain ⟨v, v1, v2, v3⟩ := tb_wordsa (v := 1) tb hi (by omega) (by simp)
  rw [show zI ((1 : Nat) : Int) = (1 : Int32) from zI_1.symm] at v1
  rw [List.nil_append] at v2
  rw [v1, ob9]
  exact ⟨v, by rw [v2.2.2.1], k0.tr v3⟩
