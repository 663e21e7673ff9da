/-! THE CLASS's texta -/
def Tda (s : gS) (T : List Nat) : Prop := s.1 17 = zI T.length ∧ ∀ j, j < T.length → s.2 4 j = zI (T.getD j 0)
theorem Tda.kp {s t : gS} {T : List Nat} {ks as : List Nat} (h : Tda s T) (hk : Kp ks as s t) (hd : 17 ∉ ks ∧ 4 ∉ as) : Tda t T := ⟨(hk.1 _ hd.1).trans h.1, fun j hj => by rw [hk.2 _ hd.2]; exact h.2 j hj⟩
theorem c_bytea {s : gS} {T : List Nat} {b : Nat} (h : Tda s T) (hT : T.length < 272) (hb : b < 128) : ∃ u, f_X7_addBytea s (zI b) = some u ∧ Tda u (T ++ [b]) ∧ Kp [17] [4] s u := by
  unfold f_X7_addBytea
  rw [h.1, if_neg (by rw [zI_272, zI_le (by omega) (by omega) (by omega) (by omega)]; omega), if_pos (zin (by omega) (by omega)), zcl (by omega), zI_byte (by omega) (by omega), zI_byte (by omega) (by omega), zsuc]
  refine ⟨_, rfl, ⟨?_, fun j hj => ?_⟩, (Kp.rf.sa (by decide)).ss (by decide)⟩
  · rw [List.length_append]
    rfl
  · show (sa s 4 T.length (zI b)).2 4 j = _
    rw [sa_at]
    rw [List.length_append, List.length_singleton] at hj
    by_cases e : j = T.length
    · subst e
      rw [if_pos ⟨rfl, rfl⟩, List.getD_eq_getElem?_getD, List.getElem?_append_right (by omega)]
      simp
    · rw [if_neg (fun g => e g.2), h.2 j (by omega), List.getD_eq_getElem?_getD, List.getD_eq_getElem?_getD, List.getElem?_append_left (by omega)]
theorem c_numa {s : gS} {T : List Nat} {n : Nat} (h : Tda s T) (hT : T.length ≤ 270) (hn : n < 100) : ∃ u, f_X7_addNumbera s (zI n) = some u ∧ Tda u (T ++ numT n) ∧ Kp [17] [4] s u := by
  have e1 : (48 : Int32) + (zI (n : Int) - zI (n : Int) / 10 * 10) = zI ((48 + n % 10 : Nat) : Int) := by
    rw [zI_10, show zI (10 : Int) = zI ((10 : Nat) : Int) from rfl, zrem (by omega) (by omega) (by omega), zI_48, zI_add]
    exact zI_c (by omega)
  have e2 : (48 : Int32) + zI (n : Int) / 10 = zI ((48 + n / 10 : Nat) : Int) := by
    rw [zI_10, show zI (10 : Int) = zI ((10 : Nat) : Int) from rfl, zquo (by omega) (by omega) (by omega), zI_48, zI_add]
    exact zI_c (by omega)
  unfold f_X7_addNumbera f_X7_addNumbera_17 numT
  rw [e1, e2]
  by_cases c : n < 10
  · rw [if_pos (by rw [zI_10, zI_lt (by omega) (by omega) (by omega) (by omega)]; omega), if_pos c]
    obtain ⟨u, u1, u2, u3⟩ := c_bytea (b := 48 + n % 10) h (by omega) (by omega)
    rw [u1, ob9]
    rw [show n % 10 = n by omega] at u2
    exact ⟨u, rfl, u2, u3⟩
  · rw [if_neg (by rw [zI_10, zI_lt (by omega) (by omega) (by omega) (by omega)]; omega), if_neg c]
    obtain ⟨u, u1, u2, u3⟩ := c_bytea (b := 48 + n / 10) h (by omega) (by omega)
    obtain ⟨v, v1, v2, v3⟩ := c_bytea (b := 48 + n % 10) u2 (by rw [List.length_append, List.length_singleton]; omega) (by omega)
    rw [u1, ob9, v1, ob9]
    rw [List.append_assoc] at v2
    exact ⟨v, rfl, v2, u3.tr v3⟩
theorem c_cellWa {q : Cfg} {s : gS} {T : List Nat} {c : Nat} (hq : okC q) (h : Tda s T) (hT : T.length ≤ 270) (hc : c < cN q) : ∃ u, f_X4_writeCella s (b5 (p5 q c)) = some u ∧ Tda u (T ++ celT q c) ∧ Kp [17] [4] s u := by
  have hx := cell_xy hq hc
  have hq2 := hq
  obtain ⟨q1, q2, q3, q4, -⟩ := hq2
  unfold f_X4_writeCella celT
  rw [c_col hq hc, ob9, zI_97, zI_add, show (97 : Int) + ((c % cW q : Nat) : Int) = ((97 + c % cW q : Nat) : Int) by omega]
  obtain ⟨u, u1, u2, u3⟩ := c_bytea (b := 97 + c % cW q) h (by omega) (by omega)
  obtain ⟨v, v1, v2, v3⟩ := c_bytea (b := 49 + c / cW q) u2 (by rw [List.length_append, List.length_singleton]; omega) (by omega)
  rw [u1, ob9, c_row hq hc, ob9, zI_49, zI_add, show (49 : Int) + ((c / cW q : Nat) : Int) = ((49 + c / cW q : Nat) : Int) by omega, v1, ob9]
  rw [List.append_assoc] at v2
  exact ⟨v, rfl, v2, u3.tr v3⟩
theorem c_signs1a {b k : Nat} (hb : b < 128) (hk : k ≤ 16) : ∀ (m j φ : Nat) (s : gS) (T : List Nat), j + m = k → m < φ → Tda s T → T.length + m ≤ 272 → ∃ u, f_X4_writeSignsa_3 φ s (zI b) (zI k) (zI j) = some u ∧ Tda u (T ++ List.replicate m b) ∧ Kp [17] [4] s u
  | 0, j, φ, s, T, hj, hf, h, hT => by
    obtain ⟨φ, rfl⟩ : ∃ m, φ = m + 1 := ⟨φ - 1, by omega⟩
    rw [f_X4_writeSignsa_3, if_pos (by rw [zI_le (by omega) (by omega) (by omega) (by omega)]; omega)]
    exact ⟨s, rfl, by rw [List.replicate_zero, List.append_nil]; exact h, Kp.rf⟩
  | m + 1, j, φ, s, T, hj, hf, h, hT => by
    obtain ⟨φ, rfl⟩ : ∃ m, φ = m + 1 := ⟨φ - 1, by omega⟩
    rw [f_X4_writeSignsa_3, if_neg (by rw [zI_le (by omega) (by omega) (by omega) (by omega)]; omega)]
    obtain ⟨u, u1, u2, u3⟩ := c_bytea (b := b) h (by omega) hb
    rw [u1, ob9, zsuc]
    obtain ⟨v, v1, v2, v3⟩ := c_signs1a hb hk m (j + 1) φ u _ (by omega) (by omega) u2 (by rw [List.length_append, List.length_singleton]; omega)
    refine ⟨v, v1, ?_, u3.tr v3⟩
    rw [List.append_assoc] at v2
    rw [List.replicate_succ]
    exact v2
theorem c_signsa {b k : Nat} {s : gS} {T : List Nat} (hb : b < 128) (hk : k ≤ 16) (h : Tda s T) (hT : T.length + k ≤ 272) : ∃ u, f_X4_writeSignsa s (zI b) (zI k) = some u ∧ Tda u (T ++ List.replicate k b) ∧ Kp [17] [4] s u := by
  obtain ⟨m, hm⟩ := gf_big
  obtain ⟨u, u1, u2, u3⟩ := c_signs1a hb hk k 0 gφ s T (by omega) (by omega) h hT
  rw [z00] at u1
  exact ⟨u, u1, u2, u3⟩
def TBa (q : Cfg) (mv : Nat → Nat) (n D : Nat) (T : List Nat) (s : gS) : Prop := Cg q mv n D s ∧ Am q mv n D s ∧ Tda s T
theorem TBa.to {q : Cfg} {mv : Nat → Nat} {n D : Nat} {T T2 : List Nat} {s u : gS} (h : TBa q mv n D T s) (hk : Kp [17] [4] s u) (hT : Tda u T2) : TBa q mv n D T2 u := ⟨h.1.kp hk (by decide), fun i i1 i2 k hk2 => by rw [hk.2 3 (by decide)]; exact h.2.1 i i1 i2 k hk2, hT⟩
theorem tb_amta {q : Cfg} {mv : Nat → Nat} {n D i k : Nat} {T : List Nat} {s : gS} (h : TBa q mv n D T s) (hi : 1 ≤ i ∧ i ≤ n) (hk : k ≤ 5) : f_X2_amountOf s (zI i) (zI ((k : Nat) : Int)) = some (zI (fdI q mv n D i ((k : Nat) : Int))) := by
  have hn := h.1.n16
  rw [c_amount s (by omega) hk, h.2.1 i hi.1 hi.2 k hk]
theorem tb_137a {q : Cfg} {mv : Nat → Nat} {n D i v : Nat} {T : List Nat} {s : gS} (h : TBa q mv n D T s) (hi : 1 ≤ i ∧ i ≤ n) (hv : v ≤ 1) (hT : T.length ≤ 271) : ∃ u, f_X4_writeWordsa_137 s (zI i) (zI v) = some u ∧ TBa q mv n D (T ++ w6 q mv n D i v) u ∧ Kp [17] [4] s u := by
  unfold f_X4_writeWordsa_137 w6
  by_cases c1 : v = 1
  · subst c1
    rw [if_pos (by decide)]
    have ha := tb_amta (k := 5) h hi (by omega)
    rw [fdI_5, bI_rep] at ha
    obtain ⟨u, u1, u2, u3⟩ := c_signsa (b := 61) (k := (if tuF q mv n D i = true then 1 else 0)) (by omega) (by split <;> omega) h.2.2 (by split <;> omega)
    rw [zI_5, show zI (5 : Int) = zI ((5 : Nat) : Int) from rfl, ha, ob9, zI_61, show zI (61 : Int) = zI ((61 : Nat) : Int) from rfl, u1, ob9]
    refine ⟨u, rfl, h.to u3 ?_, u3⟩
    have e : (if True ∧ tuF q mv n D i = true then [61] else []) = List.replicate (if tuF q mv n D i = true then 1 else 0) 61 := by
      cases tuF q mv n D i <;> rfl
    simp only [e]
    exact u2
  · rw [if_neg (by rw [zI_1, zI_eq (by omega) (by omega) (by omega) (by omega)]; omega), if_neg (fun g => c1 g.1), List.append_nil]
    exact ⟨s, rfl, h, Kp.rf⟩
theorem tb_105a {q : Cfg} {mv : Nat → Nat} {n D i v : Nat} {T : List Nat} {s : gS} (h : TBa q mv n D T s) (hi : 1 ≤ i ∧ i ≤ n) (hv : v ≤ 1) (hT : T.length ≤ 268) : ∃ u, f_X4_writeWordsa_105 s (zI i) (zI v) = some u ∧ TBa q mv n D (T ++ (w5 q mv i ++ w6 q mv n D i v)) u ∧ Kp [17] [4] s u := by
  obtain ⟨m, m1, m2⟩ := c_missed h.1 hi
  have hq := h.1.1.1
  unfold f_X4_writeWordsa_105 w5
  rw [m1, ob9]
  by_cases c1 : 0 < msF q mv i
  · have hex : ∃ c, c < cN q ∧ mkM q mv i c = true := cntF_pos (by rw [mk_ms]; exact c1)
    have hne : ¬ m = 0 := by
      intro e
      obtain ⟨c, c2, c3⟩ := hex
      have := (m2.zero hq).mp e c c2
      rw [this] at c3
      cases c3
    have hlw : fstF (mkM q mv i) 0 (cN q) = lwF q mv i := by
      unfold lwF
      refine fstF_cong (cN q) 0 (fun j _ _ => ?_)
      unfold mkM
      cases g : wbF q (posF mv (i - 1)) ((i - 1) % 2) (mv (i - 1)) with
      | false => rfl
      | true =>
        unfold msF at c1
        rw [if_pos g] at c1
        omega
    rw [if_neg hne, if_pos c1, (m2.low hq hex).2.2, hlw]
    obtain ⟨u, u1, u2, u3⟩ := c_bytea (b := 42) h.2.2 (by omega) (by omega)
    obtain ⟨x, x1, x2, x3⟩ := c_cellWa hq u2 (by rw [List.length_append, List.length_singleton]; omega) (lwF_lt c1)
    obtain ⟨y, y1, y2, y3⟩ := tb_137a (v := v) (h.to (u3.tr x3) x2) hi hv (by rw [List.length_append, List.length_append, List.length_singleton]; show T.length + 1 + 2 ≤ 271; omega)
    rw [zI_42, show zI (42 : Int) = zI ((42 : Nat) : Int) from rfl, u1, ob9, x1, ob9, y1]
    refine ⟨y, rfl, ?_, (u3.tr x3).tr y3⟩
    rw [List.append_assoc, List.append_assoc] at y2
    exact y2
  · have hz : m = 0 := by
      rw [m2.zero hq]
      intro c hc
      exact cnt_zero (show cntF (mkM q mv i) (cN q) = 0 by rw [mk_ms]; omega) c hc
    rw [if_pos hz, if_neg c1, List.nil_append]
    exact tb_137a h hi hv (by omega)
theorem tb_68a {q : Cfg} {mv : Nat → Nat} {n D i v : Nat} {T : List Nat} {s : gS} (h : TBa q mv n D T s) (hi : 1 ≤ i ∧ i ≤ n) (hv : v ≤ 1) (hT : T.length ≤ 265) : ∃ u, f_X4_writeWordsa_68 s (zI i) (zI v) = some u ∧ TBa q mv n D (T ++ (w3 q mv D i v ++ (w4 q mv D i v ++ (w5 q mv i ++ w6 q mv n D i v)))) u ∧ Kp [17] [4] s u := by
  unfold f_X4_writeWordsa_68 w3 w4
  by_cases c1 : v = 1
  · subst c1
    have hsl := slF_rng h.1.1.1 h.1.2.2.1 hi h.1.2.2.2.2.2.2.1
    have ha := tb_amta (k := 2) h hi (by omega)
    rw [show fdI q mv n D i ((2 : Nat) : Int) = bI (foF q mv D i) from rfl, bI_rep] at ha
    obtain ⟨u, u1, u2, u3⟩ := c_signsa (b := 33) (k := (if foF q mv D i = true then 1 else 0)) (by omega) (by split <;> omega) h.2.2 (by split <;> omega)
    have hu := h.to u3 u2
    have hb := tb_amta (k := 3) hu hi (by omega)
    rw [fdI_3, show slF q mv D i = (((slF q mv D i).toNat : Nat) : Int) by omega] at hb
    have hl1 : (T ++ List.replicate (if foF q mv D i = true then 1 else 0) 33).length ≤ 266 := by
      rw [List.length_append, List.length_replicate]
      split <;> omega
    obtain ⟨x, x1, x2, x3⟩ := c_signsa (b := 63) (k := (slF q mv D i).toNat) (by omega) (by omega) u2 (by omega)
    obtain ⟨y, y1, y2, y3⟩ := tb_105a (v := 1) (hu.to x3 x2) hi (by omega) (by rw [List.length_append, List.length_replicate]; omega)
    rw [if_pos (by decide), zI_2, show zI (2 : Int) = zI ((2 : Nat) : Int) from rfl, ha, ob9, zI_33, show zI (33 : Int) = zI ((33 : Nat) : Int) from rfl, u1, ob9, zI_3, show zI (3 : Int) = zI ((3 : Nat) : Int) from rfl, hb, ob9, zI_63, show zI (63 : Int) = zI ((63 : Nat) : Int) from rfl, x1, ob9, y1]
    refine ⟨y, rfl, ?_, (u3.tr x3).tr y3⟩
    have e : (if True ∧ foF q mv D i = true then [33] else []) = List.replicate (if foF q mv D i = true then 1 else 0) 33 := by
      cases foF q mv D i <;> rfl
    rw [List.append_assoc, List.append_assoc] at y2
    simp only [e, if_true]
    exact y2
  · rw [if_neg (by rw [zI_1, zI_eq (by omega) (by omega) (by omega) (by omega)]; omega), if_neg (fun g => c1 g.1), if_neg c1, List.nil_append, List.nil_append]
    exact tb_105a h hi hv (by omega)
theorem tb_wordsa {q : Cfg} {mv : Nat → Nat} {n D i v : Nat} {T : List Nat} {s : gS} (h : TBa q mv n D T s) (hi : 1 ≤ i ∧ i ≤ n) (hv : v ≤ 1) (hT : T.length ≤ 256) : ∃ u, f_X4_writeWordsa s (zI i) (zI v) = some u ∧ TBa q mv n D (T ++ wdT q mv n D i v) u ∧ Kp [17] [4] s u := by
  have hn := h.1.n16
  have hq := h.1.1.1
  have hm : mv (i - 1) < cN q := (isMv_in (h.1.2.2.1 (i - 1) (by omega)).2).1
  have hnl := numT_len i
  have hth := thF_le hq mv i
  unfold f_X4_writeWordsa wdT
  obtain ⟨a, a1, a2, a3⟩ := c_numa (n := i) h.2.2 (by omega) (by omega)
  have hl1 : (T ++ numT i).length ≤ 258 := by rw [List.length_append]; omega
  obtain ⟨b, b1, b2, b3⟩ := c_bytea (b := 46) a2 (by omega) (by omega)
  have hl2 : (T ++ numT i ++ [46]).length ≤ 259 := by rw [List.length_append, List.length_singleton]; omega
  have hb := (h.to a3 a2).to b3 b2
  obtain ⟨c, c1, c2, c3⟩ := c_cellWa hq b2 (by omega) hm
  have hl3 : (T ++ numT i ++ [46] ++ celT q (mv (i - 1))).length ≤ 261 := by rw [List.length_append]; show _ + 2 ≤ 261; omega
  have hc := hb.to c3 c2
  have ha := tb_amta (k := 0) hc hi (by omega)
  rw [show fdI q mv n D i ((0 : Nat) : Int) = bI (wnF q mv i) from rfl, bI_rep, z00] at ha
  obtain ⟨d, d1, d2, d3⟩ := c_signsa (b := 35) (k := (if wnF q mv i = true then 1 else 0)) (by omega) (by split <;> omega) c2 (by split <;> omega)
  have hl4 : (T ++ numT i ++ [46] ++ celT q (mv (i - 1)) ++ List.replicate (if wnF q mv i = true then 1 else 0) 35).length ≤ 262 := by
    rw [List.length_append, List.length_replicate]
    split <;> omega
  have hd := hc.to d3 d2
  have ht := tb_amta (k := 1) hd hi (by omega)
  rw [show fdI q mv n D i ((1 : Nat) : Int) = (thF q mv i : Int) from rfl, show zI ((1 : Nat) : Int) = (1 : Int32) from zI_1.symm] at ht
  rw [a1, ob9, zI_46, show zI (46 : Int) = zI ((46 : Nat) : Int) from rfl, b1, ob9, c_bitMv hb.1 (by omega), if_pos (by omega), ob9, show ((i : Int).toNat - 1) = i - 1 by omega, c1, ob9, ha, ob9, zI_35, show zI (35 : Int) = zI ((35 : Nat) : Int) from rfl, d1, ob9, ht, ob9]
  have e1 : w1 q mv i = List.replicate (if wnF q mv i = true then 1 else 0) 35 := by
    unfold w1
    cases wnF q mv i <;> rfl
  rw [e1]
  have kd : Kp [17] [4] s d := ((a3.tr b3).tr c3).tr d3
  unfold w2
  by_cases g : 0 < thF q mv i
  · rw [if_neg (by rw [zI_0, zI_le (by omega) (by omega) (by omega) (by omega)]; omega), if_pos g]
    obtain ⟨x, x1, x2, x3⟩ := c_bytea (b := 43) d2 (by omega) (by omega)
    have hl5 : (T ++ numT i ++ [46] ++ celT q (mv (i - 1)) ++ List.replicate (if wnF q mv i = true then 1 else 0) 35 ++ [43]).length ≤ 263 := by rw [List.length_append, List.length_singleton]; omega
    obtain ⟨y, y1, y2, y3⟩ := c_numa (n := thF q mv i) x2 (by omega) (by omega)
    have hnl2 := numT_len (thF q mv i)
    obtain ⟨z, z1, z2, z3⟩ := tb_68a (v := v) ((hd.to x3 x2).to y3 y2) hi hv (by rw [List.length_append]; omega)
    rw [zI_43, show zI (43 : Int) = zI ((43 : Nat) : Int) from rfl, x1, ob9, y1, ob9, z1]
    refine ⟨z, rfl, ?_, ((kd.tr x3).tr y3).tr z3⟩
    simp only [List.append_assoc] at z2
    exact z2
  · rw [if_pos (by rw [zI_0, zI_le (by omega) (by omega) (by omega) (by omega)]; omega), if_neg g, List.nil_append]
    obtain ⟨z, z1, z2, z3⟩ := tb_68a (v := v) hd hi hv (by omega)
    rw [z1]
    refine ⟨z, rfl, ?_, kd.tr z3⟩
    simp only [List.append_assoc] at z2
    exact z2
