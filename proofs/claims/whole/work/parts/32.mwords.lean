/-! THE MODEL's words of a move -/
def MB (q : Cfg) (mv : Nat → Nat) (n D : Nat) (T : List Nat) (s : gS) : Prop := Mg q mv n D s ∧ Lc q mv n D s ∧ Sd s T
theorem mb_found {q : Cfg} {mv : Nat → Nat} {n D i k : Nat} {T : List Nat} {s : gS} (h : MB q mv n D T s) (hi : 1 ≤ i ∧ i ≤ n) (hk : k ≤ 5) : ∃ u, f_X9_found s (zI i) (zI k) = some (zI (fdI q mv n D i k), u) ∧ MB q mv n D T u ∧ Kp [27, 28, 29] [22, 23, 24, 25, 26, 27, 28] s u := by
  have hN := okC_n h.1.1
  have hn := okM_n h.1.2.2.2.1
  obtain ⟨u, g1, g2, g3⟩ := m_found h.1 h.2.1 (a := (i : Int)) (b := (k : Int)) (by omega) (by omega)
  rw [if_pos ⟨by omega, by omega⟩] at g1
  exact ⟨u, g1, ⟨h.1.kp g3 (by decide), g2, h.2.2.kp g3 (by decide)⟩, g3.mo (by decide) (by decide)⟩
theorem mb_kp {q : Cfg} {mv : Nat → Nat} {n D : Nat} {T T2 : List Nat} {s u : gS} (h : MB q mv n D T s) (hk : Kp [29] [28] s u) (hS : Sd u T2) : MB q mv n D T2 u ∧ Kp [27, 28, 29] [22, 23, 24, 25, 26, 27, 28] s u := ⟨⟨h.1.kp hk (by decide), h.2.1.kp hk (by decide), hS⟩, hk.mo (by decide) (by decide)⟩
theorem mb_says {q : Cfg} {mv : Nat → Nat} {n D b : Nat} {T : List Nat} {s : gS} (h : MB q mv n D T s) (hT : T.length < 600) (hb : b < 128) : ∃ u, f_X9_says s (zI b) = some u ∧ MB q mv n D (T ++ [b]) u ∧ Kp [27, 28, 29] [22, 23, 24, 25, 26, 27, 28] s u := by
  obtain ⟨u, g1, g2, g3⟩ := m_says h.2.2 hT hb
  exact ⟨u, g1, mb_kp h g3 g2⟩
theorem mb_num {q : Cfg} {mv : Nat → Nat} {n D b : Nat} {T : List Nat} {s : gS} (h : MB q mv n D T s) (hT : T.length < 590) (hb : b < 100) : ∃ u, f_X9_saysNumber s (zI b) = some u ∧ MB q mv n D (T ++ numT b) u ∧ Kp [27, 28, 29] [22, 23, 24, 25, 26, 27, 28] s u := by
  obtain ⟨u, g1, g2, g3⟩ := m_num h.2.2 hT hb
  exact ⟨u, g1, mb_kp h g3 g2⟩
theorem mb_cell {q : Cfg} {mv : Nat → Nat} {n D c : Nat} {T : List Nat} {s : gS} (h : MB q mv n D T s) (hT : T.length < 590) (hc : c < cN q) : ∃ u, f_X9_saysCell s (zI c) = some u ∧ MB q mv n D (T ++ celT q c) u ∧ Kp [27, 28, 29] [22, 23, 24, 25, 26, 27, 28] s u := by
  obtain ⟨u, g1, g2, g3⟩ := m_cell h.1.1 h.1.2.1 h.2.2 hT hc
  exact ⟨u, g1, mb_kp h g3 g2⟩
def w6 (q : Cfg) (mv : Nat → Nat) (n D i v : Nat) : List Nat := if v = 1 ∧ tuF q mv n D i = true then [61] else []
def w5 (q : Cfg) (mv : Nat → Nat) (i : Nat) : List Nat := if 0 < msF q mv i then 42 :: celT q (lwF q mv i) else []
def w4 (q : Cfg) (mv : Nat → Nat) (D i v : Nat) : List Nat := if v = 1 then List.replicate (slF q mv D i).toNat 63 else []
def w3 (q : Cfg) (mv : Nat → Nat) (D i v : Nat) : List Nat := if v = 1 ∧ foF q mv D i = true then [33] else []
def w2 (q : Cfg) (mv : Nat → Nat) (i : Nat) : List Nat := if 0 < thF q mv i then 43 :: numT (thF q mv i) else []
def w1 (q : Cfg) (mv : Nat → Nat) (i : Nat) : List Nat := if wnF q mv i = true then [35] else []
def wdT (q : Cfg) (mv : Nat → Nat) (n D i v : Nat) : List Nat := numT i ++ ([46] ++ (celT q (mv (i - 1)) ++ (w1 q mv i ++ (w2 q mv i ++ (w3 q mv D i v ++ (w4 q mv D i v ++ (w5 q mv i ++ w6 q mv n D i v)))))))
theorem bI_pos (b : Bool) : (zI (bI b) ≤ 0) = (b = false) := by cases b <;> decide
theorem slF_rng {q : Cfg} {mv : Nat → Nat} {n D i : Nat} (hq : okC q) (h : okM q mv n) (hi : 1 ≤ i ∧ i ≤ n) (hD : 1 ≤ D) : 0 ≤ slF q mv D i ∧ slF q mv D i ≤ 2 := by
  obtain ⟨j, rfl⟩ : ∃ j, i = j + 1 := ⟨i - 1, by omega⟩
  obtain ⟨d, rfl⟩ : ∃ d, D = d + 1 := ⟨D - 1, by omega⟩
  have hj := h j (by omega)
  have hok := h.le (show j ≤ n by omega)
  have hb : bhF q mv j (mv j) d = mvF q d (posF mv j) j (mv j) := by
    unfold bhF
    rw [if_pos hj]
  have hv := vlF_rng (i := j) (d + 1) hq hok
  have hr := mvF_rng (d := d) (okM_okP hok) (win_lt hq hok hj.1) hj.2
  have hge : mvF q d (posF mv j) j (mv j) ≤ vlF q mv j (d + 1) := by
    unfold vlF
    rw [if_pos hj.1, valF_s]
    exact bestF_ge hj.2 (isMv_in hj.2).1
  unfold slF
  simp only [Nat.add_sub_cancel]
  rw [hb]
  omega
theorem mb_143 {q : Cfg} {mv : Nat → Nat} {n D i v : Nat} {T : List Nat} {s : gS} (h : MB q mv n D T s) (hi : 1 ≤ i ∧ i ≤ n) (hv : v ≤ 1) (hT : T.length < 590) : ∃ u, f_X9_saysMove_143 s (zI i) (zI v) = some u ∧ MB q mv n D (T ++ w6 q mv n D i v) u ∧ Kp [27, 28, 29] [22, 23, 24, 25, 26, 27, 28] s u := by
  unfold f_X9_saysMove_143 w6
  by_cases c1 : v = 1
  · subst c1
    rw [if_pos (by decide)]
    obtain ⟨u, g1, g2, g3⟩ := mb_found (k := 5) h hi (by omega)
    rw [zI_5, show zI (5 : Int) = zI ((5 : Nat) : Int) from rfl, g1]
    simp only [Option.bind_some]
    have ef : fdI q mv n D i ((5 : Nat) : Int) = bI (tuF q mv n D i) := rfl
    rw [ef]
    by_cases c2 : tuF q mv n D i = true
    · rw [if_neg (by rw [bI_pos, c2]; decide), if_pos ⟨trivial, c2⟩]
      obtain ⟨t, k1, k2, k3⟩ := mb_says (b := 61) g2 (by omega) (by omega)
      rw [zI_61, show zI (61 : Int) = zI ((61 : Nat) : Int) from rfl, k1]
      exact ⟨t, rfl, k2, g3.tr k3⟩
    · rw [if_pos (by rw [bI_pos]; simpa using c2), if_neg (fun g => c2 g.2), List.append_nil]
      exact ⟨u, rfl, g2, g3⟩
  · have c0 : v = 0 := by omega
    subst c0
    rw [if_neg (by decide), if_neg (by omega), List.append_nil]
    exact ⟨s, rfl, h, Kp.rf⟩
theorem mb_mid {q : Cfg} {mv : Nat → Nat} {n D i v : Nat} {T : List Nat} {s : gS} {X : Option gS} (h : MB q mv n D T s) (hi : 1 ≤ i ∧ i ≤ n) (hv : v ≤ 1) (hT : T.length < 580) (hX : X = (f_X9_found s (zI i) 4).bind fun r2 =>
      if r2.1 ≤ 0 then
        f_X9_saysMove_143 r2.2 (zI i) (zI v)
      else
        (f_X9_says r2.2 42).bind fun r5 =>
        (f_X9_lowestMissed r5 (zI i)).bind fun r7 =>
        (f_X9_saysCell r7.2 r7.1).bind fun r9 =>
        f_X9_saysMove_143 r9 (zI i) (zI v)) : ∃ u, X = some u ∧ MB q mv n D (T ++ (w5 q mv i ++ w6 q mv n D i v)) u ∧ Kp [27, 28, 29] [22, 23, 24, 25, 26, 27, 28] s u := by
  have hN := okC_n h.1.1
  have hm := cntF_le (wbF q (posF mv (i - 1)) ((i - 1) % 2)) (cN q)
  have hms : msF q mv i ≤ 16 := by
    unfold msF
    by_cases e : wbF q (posF mv (i - 1)) ((i - 1) % 2) (mv (i - 1)) = true
    · rw [if_pos e]; omega
    · rw [if_neg e]; omega
  subst hX
  obtain ⟨u, g1, g2, g3⟩ := mb_found (k := 4) h hi (by omega)
  rw [zI_4, show zI (4 : Int) = zI ((4 : Nat) : Int) from rfl, g1]
  simp only [Option.bind_some]
  have ef : fdI q mv n D i ((4 : Nat) : Int) = (msF q mv i : Int) := rfl
  rw [ef]
  unfold w5
  by_cases c1 : 0 < msF q mv i
  · rw [if_neg (by rw [zI_0, zI_le (by omega) (by omega) (by omega) (by omega)]; omega), if_pos c1]
    have hl := lwF_lt c1
    obtain ⟨t, k1, k2, k3⟩ := mb_says (b := 42) g2 (by omega) (by omega)
    rw [zI_42, show zI (42 : Int) = zI ((42 : Nat) : Int) from rfl, k1]
    simp only [Option.bind_some]
    obtain ⟨t2, l1, l2⟩ := m_low k2.1 hi hl
    rw [l1]
    simp only [Option.bind_some]
    have b2 : MB q mv n D (T ++ [42]) t2 := ⟨k2.1.kp l2 (by decide), k2.2.1.kp l2 (by decide), k2.2.2.kp l2 (by decide)⟩
    obtain ⟨t3, j1, j2, j3⟩ := mb_cell b2 (by simp; omega) hl
    rw [j1]
    simp only [Option.bind_some]
    obtain ⟨t4, e1, e2, e3⟩ := mb_143 j2 hi hv (by simp [celT]; omega)
    refine ⟨t4, e1, ?_, g3.tr (k3.tr ((l2.mo (by decide) (by decide)).tr (j3.tr e3)))⟩
    have ea : T ++ (42 :: celT q (lwF q mv i) ++ w6 q mv n D i v) = T ++ [42] ++ celT q (lwF q mv i) ++ w6 q mv n D i v := by simp
    rw [ea]
    exact e2
  · rw [if_pos (by rw [zI_0, zI_le (by omega) (by omega) (by omega) (by omega)]; omega), if_neg c1, List.nil_append]
    obtain ⟨t, k1, k2, k3⟩ := mb_143 g2 hi hv (by omega)
    exact ⟨t, k1, k2, g3.tr k3⟩
theorem mb_100 {q : Cfg} {mv : Nat → Nat} {n D i v k : Nat} (hi : 1 ≤ i ∧ i ≤ n) (hv : v ≤ 1) (hk : k ≤ 2) : ∀ (m j φ : Nat) (T : List Nat) (s : gS), j + m = k → m < φ → MB q mv n D T s → T.length + m < 580 → ∃ u, f_X9_saysMove_100 φ s (zI i) (zI v) (zI k) (zI j) = some u ∧ MB q mv n D (T ++ (List.replicate m 63 ++ (w5 q mv i ++ w6 q mv n D i v))) u ∧ Kp [27, 28, 29] [22, 23, 24, 25, 26, 27, 28] s u
  | 0, j, φ, T, s, hj, hf, h, hT => by
    obtain ⟨φ, rfl⟩ : ∃ m, φ = m + 1 := ⟨φ - 1, by omega⟩
    rw [f_X9_saysMove_100, if_pos (by rw [zI_le (by omega) (by omega) (by omega) (by omega)]; omega)]
    exact mb_mid h hi hv (by omega) rfl
  | m + 1, j, φ, T, s, hj, hf, h, hT => by
    obtain ⟨φ, rfl⟩ : ∃ m, φ = m + 1 := ⟨φ - 1, by omega⟩
    rw [f_X9_saysMove_100, if_neg (by rw [zI_le (by omega) (by omega) (by omega) (by omega)]; omega)]
    obtain ⟨u, g1, g2, g3⟩ := mb_says (b := 63) h (by omega) (by omega)
    rw [zI_63, show zI (63 : Int) = zI ((63 : Nat) : Int) from rfl, g1]
    simp only [Option.bind_some]
    obtain ⟨t, k1, k2, k3⟩ := mb_100 hi hv hk m (j + 1) φ (T ++ [63]) u (by omega) (by omega) g2 (by simp; omega)
    rw [zsuc]
    refine ⟨t, k1, ?_, g3.tr k3⟩
    have ea : T ++ (List.replicate (m + 1) 63 ++ (w5 q mv i ++ w6 q mv n D i v)) = T ++ [63] ++ (List.replicate m 63 ++ (w5 q mv i ++ w6 q mv n D i v)) := by simp [List.replicate_succ]
    rw [ea]
    exact k2
theorem mb_95 {q : Cfg} {mv : Nat → Nat} {n D i v k : Nat} {T : List Nat} {s : gS} (h : MB q mv n D T s) (hi : 1 ≤ i ∧ i ≤ n) (hv : v ≤ 1) (hk : k ≤ 2) (hT : T.length < 570) : ∃ u, f_X9_saysMove_95 s (zI i) (zI v) (zI k) = some u ∧ MB q mv n D (T ++ (List.replicate k 63 ++ (w5 q mv i ++ w6 q mv n D i v))) u ∧ Kp [27, 28, 29] [22, 23, 24, 25, 26, 27, 28] s u := by
  obtain ⟨m, hm⟩ := gf_big
  unfold f_X9_saysMove_95
  rw [zI_0]
  exact mb_100 hi hv hk k 0 gφ T s (by omega) (by omega) h (by omega)
theorem ob9 {α β : Type} (a : α) (f : α → Option β) : (some a).bind f = f a := by
  have h : ∀ x : Option α, x = some a → x.bind f = f a := by
    intro x hx
    cases hx
    rfl
  exact h (some a) rfl
theorem fdI_3 (q : Cfg) (mv : Nat → Nat) (n D i : Nat) : fdI q mv n D i ((3 : Nat) : Int) = slF q mv D i := by
  unfold fdI
  rw [if_neg (by decide), if_neg (by decide), if_neg (by decide), if_pos (by decide)]
theorem mb_80a {q : Cfg} {mv : Nat → Nat} {n D i : Nat} {T : List Nat} {s : gS} (h : MB q mv n D T s) (hi : 1 ≤ i ∧ i ≤ n) (hT : T.length < 570) : ∃ u, f_X9_saysMove_80 s (zI i) (zI ((1 : Nat) : Int)) = some u ∧ MB q mv n D (T ++ (List.replicate (slF q mv D i).toNat 63 ++ (w5 q mv i ++ w6 q mv n D i 1))) u ∧ Kp [27, 28, 29] [22, 23, 24, 25, 26, 27, 28] s u := by
  have hD := h.1.2.2.2.2.2.2
  have hs := slF_rng h.1.1 h.1.2.2.2.1 hi hD.1
  obtain ⟨u, g1, g2, g3⟩ := mb_found (k := 3) h hi (by omega)
  rw [fdI_3] at g1
  obtain ⟨t, k1, k2, k3⟩ := mb_95 (v := 1) g2 hi (by omega) (k := (slF q mv D i).toNat) (by omega) hT
  refine ⟨t, ?_, k2, g3.tr k3⟩
  unfold f_X9_saysMove_80
  have e3 : (3 : Int32) = zI ((3 : Nat) : Int) := zI_3
  have es : slF q mv D i = (((slF q mv D i).toNat : Nat) : Int) := by omega
  rw [if_pos (show zI ((1 : Nat) : Int) = 1 from zI_1.symm), e3, g1, ob9]
  rw [← es] at k1
  exact k1
theorem mb_80b {q : Cfg} {mv : Nat → Nat} {n D i : Nat} {T : List Nat} {s : gS} (h : MB q mv n D T s) (hi : 1 ≤ i ∧ i ≤ n) (hT : T.length < 570) : ∃ u, f_X9_saysMove_80 s (zI i) (zI ((0 : Nat) : Int)) = some u ∧ MB q mv n D (T ++ (w5 q mv i ++ w6 q mv n D i 0)) u ∧ Kp [27, 28, 29] [22, 23, 24, 25, 26, 27, 28] s u := by
  obtain ⟨t, k1, k2, k3⟩ := mb_95 (v := 0) h hi (by omega) (k := 0) (by omega) hT
  rw [List.replicate_zero, List.nil_append] at k2
  refine ⟨t, ?_, k2, k3⟩
  unfold f_X9_saysMove_80
  rw [if_neg (by decide)]
  exact k1
theorem mb_80 {q : Cfg} {mv : Nat → Nat} {n D i v : Nat} {T : List Nat} {s : gS} (h : MB q mv n D T s) (hi : 1 ≤ i ∧ i ≤ n) (hv : v ≤ 1) (hT : T.length < 570) : ∃ u, f_X9_saysMove_80 s (zI i) (zI v) = some u ∧ MB q mv n D (T ++ (w4 q mv D i v ++ (w5 q mv i ++ w6 q mv n D i v))) u ∧ Kp [27, 28, 29] [22, 23, 24, 25, 26, 27, 28] s u := by
  by_cases c1 : v = 1
  · subst c1
    have e4 : w4 q mv D i 1 = List.replicate (slF q mv D i).toNat 63 := by
      unfold w4
      rw [if_pos rfl]
    rw [e4]
    exact mb_80a h hi hT
  · have c0 : v = 0 := by omega
    subst c0
    have e4 : w4 q mv D i 0 = [] := by
      unfold w4
      rw [if_neg c1]
    rw [e4, List.nil_append]
    exact mb_80b h hi hT
theorem mb_60 {q : Cfg} {mv : Nat → Nat} {n D i v : Nat} {T : List Nat} {s : gS} (h : MB q mv n D T s) (hi : 1 ≤ i ∧ i ≤ n) (hv : v ≤ 1) (hT : T.length < 568) : ∃ u, f_X9_saysMove_60 s (zI i) (zI v) = some u ∧ MB q mv n D (T ++ (w3 q mv D i v ++ (w4 q mv D i v ++ (w5 q mv i ++ w6 q mv n D i v)))) u ∧ Kp [27, 28, 29] [22, 23, 24, 25, 26, 27, 28] s u := by
  unfold f_X9_saysMove_60 w3
  by_cases c1 : v = 1
  · obtain ⟨u, g1, g2, g3⟩ := mb_found (k := 2) h hi (by omega)
    rw [if_pos (by rw [c1]; decide), zI_2, show zI (2 : Int) = zI ((2 : Nat) : Int) from rfl, g1]
    simp only [Option.bind_some]
    have ef : fdI q mv n D i ((2 : Nat) : Int) = bI (foF q mv D i) := rfl
    rw [ef]
    by_cases c2 : foF q mv D i = true
    · rw [if_neg (by rw [bI_pos, c2]; decide), if_pos ⟨c1, c2⟩]
      obtain ⟨t, k1, k2, k3⟩ := mb_says (b := 33) g2 (by omega) (by omega)
      rw [zI_33, show zI (33 : Int) = zI ((33 : Nat) : Int) from rfl, k1]
      simp only [Option.bind_some]
      obtain ⟨t2, j1, j2, j3⟩ := mb_80 k2 hi hv (by simp; omega)
      rw [List.append_assoc] at j2
      exact ⟨t2, j1, j2, g3.tr (k3.tr j3)⟩
    · rw [if_pos (by rw [bI_pos]; simpa using c2), if_neg (fun g => c2 g.2), List.nil_append]
      obtain ⟨t2, j1, j2, j3⟩ := mb_80 g2 hi hv (by omega)
      exact ⟨t2, j1, j2, g3.tr j3⟩
  · rw [if_neg (by rw [zI_1, zI_eq (by omega) (by omega) (by omega) (by omega)]; omega), if_neg (fun g => c1 g.1), List.nil_append]
    exact mb_80 h hi hv (by omega)
theorem thF_le {q : Cfg} (hq : okC q) (mv : Nat → Nat) (i : Nat) : thF q mv i ≤ 16 := by
  have hN := okC_n hq
  have := cntF_le (wbF q (posF mv i) ((i - 1) % 2)) (cN q)
  unfold thF
  by_cases e : winF q mv i = 3
  · rw [if_pos e]; omega
  · rw [if_neg e]; omega
theorem mb_38 {q : Cfg} {mv : Nat → Nat} {n D i v : Nat} {T : List Nat} {s : gS} (h : MB q mv n D T s) (hi : 1 ≤ i ∧ i ≤ n) (hv : v ≤ 1) (hT : T.length < 564) : ∃ u, f_X9_saysMove_38 s (zI i) (zI v) = some u ∧ MB q mv n D (T ++ (w2 q mv i ++ (w3 q mv D i v ++ (w4 q mv D i v ++ (w5 q mv i ++ w6 q mv n D i v))))) u ∧ Kp [27, 28, 29] [22, 23, 24, 25, 26, 27, 28] s u := by
  have ht := thF_le h.1.1 mv i
  have hl := numT_len (thF q mv i)
  unfold f_X9_saysMove_38 w2
  obtain ⟨u, g1, g2, g3⟩ := mb_found (k := 1) h hi (by omega)
  rw [zI_1, show zI (1 : Int) = zI ((1 : Nat) : Int) from rfl, g1]
  simp only [Option.bind_some]
  have ef : fdI q mv n D i ((1 : Nat) : Int) = (thF q mv i : Int) := rfl
  rw [ef]
  by_cases c1 : 0 < thF q mv i
  · rw [if_neg (by rw [zI_0, zI_le (by omega) (by omega) (by omega) (by omega)]; omega), if_pos c1]
    obtain ⟨t, k1, k2, k3⟩ := mb_says (b := 43) g2 (by omega) (by omega)
    rw [zI_43, show zI (43 : Int) = zI ((43 : Nat) : Int) from rfl, k1]
    simp only [Option.bind_some]
    obtain ⟨t2, j1, j2, j3⟩ := mb_num (b := thF q mv i) k2 (by simp; omega) (by omega)
    rw [j1]
    simp only [Option.bind_some]
    obtain ⟨t3, e1, e2, e3⟩ := mb_60 j2 hi hv (by simp; omega)
    refine ⟨t3, e1, ?_, g3.tr (k3.tr (j3.tr e3))⟩
    have ea : T ++ (43 :: numT (thF q mv i) ++ (w3 q mv D i v ++ (w4 q mv D i v ++ (w5 q mv i ++ w6 q mv n D i v)))) = T ++ [43] ++ numT (thF q mv i) ++ (w3 q mv D i v ++ (w4 q mv D i v ++ (w5 q mv i ++ w6 q mv n D i v))) := by simp
    rw [ea]
    exact e2
  · rw [if_pos (by rw [zI_0, zI_le (by omega) (by omega) (by omega) (by omega)]; omega), if_neg c1, List.nil_append]
    obtain ⟨t, k1, k2, k3⟩ := mb_60 g2 hi hv (by omega)
    exact ⟨t, k1, k2, g3.tr k3⟩
theorem mb_move {q : Cfg} {mv : Nat → Nat} {n D i v : Nat} {T : List Nat} {s : gS} (h : MB q mv n D T s) (hi : 1 ≤ i ∧ i ≤ n) (hv : v ≤ 1) (hT : T.length < 550) : ∃ u, f_X9_saysMove s (zI i) (zI v) = some u ∧ MB q mv n D (T ++ wdT q mv n D i v) u ∧ Kp [27, 28, 29] [22, 23, 24, 25, 26, 27, 28] s u := by
  have hN := okC_n h.1.1
  have hn := okM_n h.1.2.2.2.1
  have hl := numT_len i
  have hm := okM_lt h.1.2.2.2.1 (show i - 1 < n by omega)
  unfold f_X9_saysMove wdT
  obtain ⟨u, g1, g2, g3⟩ := mb_num (b := i) h (by omega) (by omega)
  rw [g1]
  simp only [Option.bind_some]
  obtain ⟨t, k1, k2, k3⟩ := mb_says (b := 46) g2 (by simp; omega) (by omega)
  rw [zI_46, show zI (46 : Int) = zI ((46 : Nat) : Int) from rfl, k1]
  simp only [Option.bind_some]
  rw [zpr hi.1, zin (show i - 1 < 16 by omega) (by omega), if_pos rfl, zcl (by omega), k2.1.2.2.2.2.1 _ (show i - 1 < n by omega)]
  obtain ⟨t2, j1, j2, j3⟩ := mb_cell k2 (by simp; omega) hm
  rw [j1]
  simp only [Option.bind_some]
  obtain ⟨t3, e1, e2, e3⟩ := mb_found (k := 0) j2 hi (by omega)
  rw [zI_0, show zI (0 : Int) = zI ((0 : Nat) : Int) from rfl, e1]
  simp only [Option.bind_some]
  rw [show zI ((0 : Nat) : Int) = 0 from zI_0.symm]
  have ef : fdI q mv n D i ((0 : Nat) : Int) = bI (wnF q mv i) := rfl
  rw [ef]
  have kk := g3.tr (k3.tr (j3.tr e3))
  unfold w1
  by_cases c2 : wnF q mv i = true
  · rw [if_neg (by rw [bI_pos, c2]; decide), if_pos c2]
    obtain ⟨t4, l1, l2, l3⟩ := mb_says (b := 35) e2 (by simp [celT]; omega) (by omega)
    rw [zI_35, show zI (35 : Int) = zI ((35 : Nat) : Int) from rfl, l1]
    simp only [Option.bind_some]
    obtain ⟨t5, o1, o2, o3⟩ := mb_38 l2 hi hv (by simp [celT]; omega)
    refine ⟨t5, o1, ?_, kk.tr (l3.tr o3)⟩
    simpa using o2
  · rw [if_pos (by rw [bI_pos]; simpa using c2), if_neg c2]
    obtain ⟨t5, o1, o2, o3⟩ := mb_38 e2 hi hv (by simp [celT]; omega)
    refine ⟨t5, o1, ?_, kk.tr o3⟩
    simpa using o2
theorem ite_len {A : Prop} [Decidable A] {x y : List Nat} {m : Nat} (hx : x.length ≤ m) (hy : y.length ≤ m) : (if A then x else y).length ≤ m := by
  by_cases h : A
  · rw [if_pos h]; exact hx
  · rw [if_neg h]; exact hy
theorem wdT_len {q : Cfg} {mv : Nat → Nat} {n D i v : Nat} (hq : okC q) (h : okM q mv n) (hi : 1 ≤ i ∧ i ≤ n) (hD : 1 ≤ D) : 1 ≤ (wdT q mv n D i v).length ∧ (wdT q mv n D i v).length ≤ 16 := by
  have h1 := numT_len i
  have h2 := numT_len (thF q mv i)
  have hs := slF_rng hq h hi hD
  have l1 : (w1 q mv i).length ≤ 1 := ite_len (by simp) (by simp)
  have l2 : (w2 q mv i).length ≤ 3 := ite_len (by simp; omega) (by simp)
  have l3 : (w3 q mv D i v).length ≤ 1 := ite_len (by simp) (by simp)
  have l4 : (w4 q mv D i v).length ≤ 2 := ite_len (by simp; omega) (by simp)
  have l5 : (w5 q mv i).length ≤ 3 := ite_len (by simp [celT]) (by simp)
  have l6 : (w6 q mv n D i v).length ≤ 1 := ite_len (by simp) (by simp)
  have lw : (w1 q mv i).length + (w2 q mv i).length ≤ 3 := by
    by_cases e : wnF q mv i = true
    · have ew : winF q mv i = (i - 1) % 2 := of_decide_eq_true e
      have e2 : w2 q mv i = [] := by
        unfold w2 thF
        rw [if_neg (show ¬ winF q mv i = 3 by omega), if_neg (by omega)]
      rw [e2]
      simp
      omega
    · have e2 : w1 q mv i = [] := by
        unfold w1
        rw [if_neg e]
      rw [e2]
      simp
      omega
  unfold wdT
  simp only [List.length_append]
  simp only [celT, List.length_cons, List.length_nil]
  omega
