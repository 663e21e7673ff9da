/-! THE MODEL's text -/
def Sd (s : gS) (T : List Nat) : Prop := s.1 29 = zI T.length ∧ ∀ j, j < T.length → s.2 28 j = zI (T.getD j 0)
theorem Sd.kp {s t : gS} {T : List Nat} {ks as : List Nat} (h : Sd s T) (hk : Kp ks as s t) (hd : 29 ∉ ks ∧ 28 ∉ as) : Sd t T := ⟨(hk.1 _ hd.1).trans h.1, fun j hj => by rw [hk.2 _ hd.2]; exact h.2 j hj⟩
theorem m_says {s : gS} {T : List Nat} {b : Nat} (h : Sd s T) (hT : T.length < 600) (hb : b < 128) : ∃ u, f_X9_says s (zI b) = some u ∧ Sd u (T ++ [b]) ∧ Kp [29] [28] s u := by
  have hz : (zI (b : Int)).toInt8.toInt32.toInt8.toInt32 = zI b := by rw [zI_byte (by omega) (by omega), zI_byte (by omega) (by omega)]
  have key : f_X9_says s (zI b) = some (ss (sa s 28 T.length (zI b)) 29 (zI ((T.length + 1 : Nat) : Int))) := by
    unfold f_X9_says
    rw [h.1, zin hT (by omega), if_pos rfl, zcl (by omega), hz, zsuc]
  refine ⟨_, key, ⟨?_, fun j hj => ?_⟩, fr_X9_says s (zI b) _ key⟩
  · rw [List.length_append]
    rfl
  · rw [List.length_append] at hj
    show (sa s 28 T.length (zI b)).2 28 j = _
    rw [sa_at]
    by_cases e : j = T.length
    · rw [if_pos ⟨rfl, e⟩, e]
      simp
    · rw [if_neg (fun g => e g.2), h.2 j (by simp at hj; omega)]
      have hjl : j < T.length := by simp at hj; omega
      rw [List.getD_eq_getElem?_getD, List.getD_eq_getElem?_getD, List.getElem?_append_left hjl]
def numT (n : Nat) : List Nat := if n < 10 then [48 + n] else [48 + n / 10, 48 + n % 10]
def celT (q : Cfg) (c : Nat) : List Nat := [97 + c % cW q, 49 + c / cW q]
theorem numT_len (n : Nat) : 1 ≤ (numT n).length ∧ (numT n).length ≤ 2 := by
  unfold numT
  by_cases h : n < 10
  · rw [if_pos h]; simp
  · rw [if_neg h]; simp
theorem zrem {n d : Nat} (hn : n < 2147483648) (hd : 0 < d) (hd2 : d < 2147483648) : zI (n : Int) - zI (n : Int) / zI (d : Int) * zI (d : Int) = zI ((n % d : Nat) : Int) := by
  rw [zI_div (by omega) (by omega) (by omega) (by omega), zI_mod, Int.natCast_emod]
theorem zquo {n d : Nat} (hn : n < 2147483648) (hd : 0 < d) (hd2 : d < 2147483648) : zI (n : Int) / zI (d : Int) = zI ((n / d : Nat) : Int) := by
  rw [zI_div (by omega) (by omega) (by omega) (by omega), Int.natCast_ediv]
theorem m_num {s : gS} {T : List Nat} {n : Nat} (h : Sd s T) (hT : T.length < 590) (hn : n < 100) : ∃ u, f_X9_saysNumber s (zI n) = some u ∧ Sd u (T ++ numT n) ∧ Kp [29] [28] s u := by
  have e17 : ∀ {s : gS} {T : List Nat}, Sd s T → T.length < 595 → ∃ u, f_X9_saysNumber_17 s (zI n) = some u ∧ Sd u (T ++ [48 + n % 10]) ∧ Kp [29] [28] s u := by
    intro s T h hT
    have e1 : (48 : Int32) + (zI (n : Int) - zI (n : Int) / 10 * 10) = zI ((48 + n % 10 : Nat) : Int) := by
      rw [zI_10, show zI (n : Int) - zI (n : Int) / zI 10 * zI 10 = zI ((n % 10 : Nat) : Int) from zrem (d := 10) (by omega) (by omega) (by omega), zI_48, zI_add]
      exact zI_c (by omega)
    obtain ⟨u, g1, g2, g3⟩ := m_says (b := 48 + n % 10) h (by omega) (by omega)
    refine ⟨u, ?_, g2, g3⟩
    unfold f_X9_saysNumber_17
    rw [e1, g1]
    rfl
  unfold f_X9_saysNumber numT
  by_cases c1 : n < 10
  · rw [if_pos (by rw [zI_10, zI_lt (by omega) (by omega) (by omega) (by omega)]; omega), if_pos c1]
    have h1 := e17 h (by omega)
    rw [Nat.mod_eq_of_lt c1] at h1
    exact h1
  · rw [if_neg (by rw [zI_10, zI_lt (by omega) (by omega) (by omega) (by omega)]; omega), if_neg c1]
    have e1 : (48 : Int32) + zI (n : Int) / 10 = zI ((48 + n / 10 : Nat) : Int) := by
      rw [zI_10, show zI (n : Int) / zI 10 = zI ((n / 10 : Nat) : Int) from zquo (d := 10) (by omega) (by omega) (by omega), zI_48, zI_add]
      exact zI_c (by omega)
    obtain ⟨u, g1, g2, g3⟩ := m_says (b := 48 + n / 10) h (by omega) (by omega)
    obtain ⟨t, k1, k2, k3⟩ := e17 g2 (by rw [List.length_append]; simp; omega)
    rw [e1, g1]
    simp only [Option.bind_some]
    rw [List.append_assoc] at k2
    exact ⟨t, k1, k2, g3.tr k3⟩
theorem m_cell {q : Cfg} {s : gS} {T : List Nat} {c : Nat} (hq : okC q) (hs : MS q s) (h : Sd s T) (hT : T.length < 590) (hc : c < cN q) : ∃ u, f_X9_saysCell s (zI c) = some u ∧ Sd u (T ++ celT q c) ∧ Kp [29] [28] s u := by
  obtain ⟨x1, x2, -⟩ := cell_xy hq hc
  have hN := okC_n hq
  obtain ⟨q1, q2, q3, q4, -⟩ := id hq
  have e1 : (97 : Int32) + (zI (c : Int) - zI (c : Int) / zI (cW q) * zI (cW q)) = zI ((97 + c % cW q : Nat) : Int) := by
    rw [zrem (by omega) (by omega) (by omega), zI_97, zI_add]
    exact zI_c (by omega)
  have e2 : (49 : Int32) + zI (c : Int) / zI (cW q) = zI ((49 + c / cW q : Nat) : Int) := by
    rw [zquo (by omega) (by omega) (by omega), zI_49, zI_add]
    exact zI_c (by omega)
  obtain ⟨u, g1, g2, g3⟩ := m_says (b := 97 + c % cW q) h (by omega) (by omega)
  obtain ⟨t, k1, k2, k3⟩ := m_says (b := 49 + c / cW q) g2 (by rw [List.length_append]; simp; omega) (by omega)
  have hnz : nz (zI (cW q)) = true := by rw [zI_nz (by omega) (by omega)]; simp only [decide_eq_true_eq]; omega
  refine ⟨t, ?_, ?_, g3.tr k3⟩
  · unfold f_X9_saysCell
    rw [hs.1, hnz, if_pos rfl, e1, g1]
    simp only [Option.bind_some]
    rw [(g3.1 20 (by decide)).trans hs.1, hnz, if_pos rfl, e2, k1]
    rfl
  · rw [List.append_assoc] at k2
    exact k2
/-- the first that holds -/
def fstF (f : Nat → Bool) : Nat → Nat → Nat
  | c, 0 => c
  | c, m + 1 => if f c = true then c else fstF f (c + 1) m
theorem m_low1 {q : Cfg} {s : gS} {p : Nat → Nat} {i : Nat} (hq : okC q) (hs : MS q s) (hp : StB s p) (hi : 1 ≤ i ∧ i ≤ 17) : ∀ (m c φ : Nat), c + m = cN q → m < φ → fstF (wbF q p ((i - 1) % 2)) c m < cN q → f_X9_lowestMissed_9 φ s (zI i) (zI c) = some (zI (fstF (wbF q p ((i - 1) % 2)) c m), s)
  | 0, c, φ, hc, hf, hl => by
    rw [fstF] at hl
    omega
  | m + 1, c, φ, hc, hf, hl => by
    obtain ⟨φ, rfl⟩ : ∃ m, φ = m + 1 := ⟨φ - 1, by omega⟩
    have hN := okC_n hq
    rw [f_X9_lowestMissed_9, hs.1, hs.2.1, cN_z, if_neg (by rw [zI_le (by omega) (by omega) (by omega) (by omega)]; omega), zpr hi.1, zI_par (by omega), m_winsBy hq hs hp (by omega) (show c < cN q by omega)]
    simp only [Option.bind_some]
    rw [if10]
    rw [fstF] at hl ⊢
    by_cases c1 : wbF q p ((i - 1) % 2) c = true
    · rw [if_pos c1, if_pos c1]
    · rw [if_neg c1, if_neg c1, zsuc]
      rw [if_neg c1] at hl
      exact m_low1 hq hs hp hi m (c + 1) φ (by omega) (by omega) hl
theorem fstF_lt {f : Nat → Bool} : ∀ (m c : Nat), (∃ j, c ≤ j ∧ j < c + m ∧ f j = true) → fstF f c m < c + m ∧ f (fstF f c m) = true
  | 0, c, h => by
    obtain ⟨j, h1, h2, -⟩ := h
    omega
  | m + 1, c, h => by
    rw [fstF]
    by_cases e : f c = true
    · rw [if_pos e]
      exact ⟨by omega, e⟩
    · rw [if_neg e]
      have ih := fstF_lt (f := f) m (c + 1) (by
        obtain ⟨j, h1, h2, h3⟩ := h
        refine ⟨j, ?_, by omega, h3⟩
        rcases Nat.lt_or_ge c j with g | g
        · omega
        · have : j = c := by omega
          rw [this] at h3
          exact absurd h3 e)
      exact ⟨by omega, ih.2⟩
theorem cntF_pos {f : Nat → Bool} : ∀ {m : Nat}, 0 < cntF f m → ∃ c, c < m ∧ f c = true
  | 0, h => by cases h
  | m + 1, h => by
    by_cases e : f m = true
    · exact ⟨m, by omega, e⟩
    · rw [cntF, if_neg e] at h
      obtain ⟨c, h1, h2⟩ := cntF_pos (m := m) h
      exact ⟨c, by omega, h2⟩
def lwF (q : Cfg) (mv : Nat → Nat) (i : Nat) : Nat := fstF (wbF q (posF mv (i - 1)) ((i - 1) % 2)) 0 (cN q)
theorem lwF_lt {q : Cfg} {mv : Nat → Nat} {i : Nat} (h : 0 < msF q mv i) : lwF q mv i < cN q := by
  unfold msF at h
  by_cases e : wbF q (posF mv (i - 1)) ((i - 1) % 2) (mv (i - 1)) = true
  · rw [if_pos e] at h
    omega
  · rw [if_neg e] at h
    obtain ⟨c, h1, h2⟩ := cntF_pos h
    have := (fstF_lt (cN q) 0 ⟨c, by omega, by omega, h2⟩).1
    unfold lwF
    omega
theorem m_low {q : Cfg} {mv : Nat → Nat} {n D i : Nat} {s : gS} (h : Mg q mv n D s) (hi : 1 ≤ i ∧ i ≤ n) (hl : lwF q mv i < cN q) : ∃ u, f_X9_lowestMissed s (zI i) = some (zI (lwF q mv i), u) ∧ Kp [27, 28] [22] s u := by
  have hN := okC_n h.1
  have hn := okM_n h.2.2.2.1
  obtain ⟨r, g1, g2, g3, g4, g5⟩ := h.up (i := i - 1) (by omega)
  obtain ⟨m, hm⟩ := gf_big
  unfold f_X9_lowestMissed
  rw [zpr hi.1, g1]
  simp only [Option.bind_some]
  rw [zI_0]
  exact ⟨r, m_low1 h.1 (h.2.1.kp g5 (by decide)) g2 (by omega) (cN q) 0 gφ (by omega) (by omega) hl, g5⟩
