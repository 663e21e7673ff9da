theorem z00 : zI ((0 : Nat) : Int) = (0 : Int32) := zI_0.symm
theorem t9_z {k : Nat} (h : k < 4294967296) : t9 (zI (k : Int)) = k := by
  rw [← zI_ofNat]
  show (BitVec.ofNat 32 k).toNat = k
  rw [BitVec.toNat_ofNat, Nat.mod_eq_of_lt (by omega)]
theorem t9_inj {a b : Int32} (h : t9 a = t9 b) : a = b := Int32.toBitVec_inj.1 (BitVec.eq_of_toNat_eq h)
theorem bt_t9 (x : Int32) (i : Nat) : bt x i = (t9 x).testBit i := rfl
theorem pc_bits {x : Int32} (h : ∀ i, 19 ≤ i → bt x i = false) : f_J6_bitCount_0f7a4 x = some (zI (cntF (bt x) 19 : Nat)) := by
  have hl : t9 x < 2 ^ 19 := Nat.lt_pow_two_of_testBit _ (fun i hi => h i hi)
  have hk := pnK_ok 19 0 0 pn_chk (t9 x) hl
  rw [Nat.zero_mul, Nat.zero_add, Nat.zero_add] at hk
  have hc := cntF_le (fun i => (t9 x).testBit i) 19
  rw [pc_all]
  refine congrArg some (t9_inj ?_)
  rw [t9_z (show cntF (bt x) 19 < 4294967296 from Nat.lt_of_le_of_lt (cntF_le _ _) (by omega)), pn_E, pn_D, pn_C, pn_B, pn_A]
  exact hk
theorem cnt_cells {q : Cfg} (hq : okC q) (f : Nat → Bool) : cntF (fun i => inBd q i && f (c5 q i)) 19 = cntF f (cN q) := by
  obtain ⟨h1, h2, h3, h4, -⟩ := hq
  obtain ⟨w, h, k, g, l⟩ := q
  simp only [cW, cH] at h1 h2 h3 h4
  have hw : w = 2 ∨ w = 3 ∨ w = 4 := by omega
  have hh : h = 2 ∨ h = 3 ∨ h = 4 := by omega
  rcases hw with rfl | rfl | rfl <;> rcases hh with rfl | rfl | rfl <;> simp [cntF, inBd, c5, cW, cH, cN]
theorem Mk.cnt {q : Cfg} (hq : okC q) {f : Nat → Bool} {m : Int32} (h : Mk q f m) : f_J6_bitCount_0f7a4 m = some (zI (cntF f (cN q) : Nat)) := by
  rw [pc_bits (fun i hi => by
    rw [h i]
    cases e : inBd q i with
    | false => rfl
    | true => exact absurd (c5_ok hq e).2.2 (by omega)), ← cnt_cells hq f, cntF_cong (fun c _ => h c)]
theorem row_bit : ∀ j : Fin 19, f_X0_rowOf (b5 j.val) = some (zI ((j.val / 5 : Nat) : Int)) ∧ f_X0_columnOf (b5 j.val) = some (zI ((j.val % 5 : Nat) : Int)) := by decide +kernel
theorem c_row {q : Cfg} (hq : okC q) {c : Nat} (hc : c < cN q) : f_X0_rowOf (b5 (p5 q c)) = some (zI ((c / cW q : Nat) : Int)) := by
  obtain ⟨-, -, h1, h2, h3⟩ := p5_ok hq hc
  rw [← h3]
  exact (row_bit ⟨p5 q c, h1⟩).1
theorem c_col {q : Cfg} (hq : okC q) {c : Nat} (hc : c < cN q) : f_X0_columnOf (b5 (p5 q c)) = some (zI ((c % cW q : Nat) : Int)) := by
  obtain ⟨-, -, h1, h2, h3⟩ := p5_ok hq hc
  rw [← h2]
  exact (row_bit ⟨p5 q c, h1⟩).2
theorem b5_nz {j : Nat} (hj : j < 32) : b5 j ≠ 0 := by
  intro e
  have := bt_b5 hj j
  rw [e, bt_0] at this
  simp at this
theorem c_cell {q : Cfg} {s : gS} (h : CB q s) {c : Nat} (hc : c < cN q) : f_X0_cellOf s (b5 (p5 q c)) = some (zI c) := by
  have hq := h.1
  have hp := (p5_ok hq hc).2.2.1
  unfold f_X0_cellOf
  rw [if_neg (b5_nz (by omega)), c_row hq hc, ob9, c_col hq hc, ob9, h.2.1, zI_mul, zI_add]
  refine congrArg some (zI_c ?_)
  have := (cell_xy hq hc).2.2
  rw [Nat.mul_comm] at this
  omega
theorem c_cell0 (s : gS) : f_X0_cellOf s 0 = some (zI (-1)) := by
  unfold f_X0_cellOf
  rw [if_pos rfl, zI_m1]
theorem c_bitAt {q : Cfg} {s : gS} (h : CB q s) {x y : Int} (hx : -2147483648 ≤ x ∧ x < 2147483648) (hy : -2147483648 ≤ y ∧ y < 2147483648) : f_X0_bitAt s (zI x) (zI y) = some (if (0 ≤ x ∧ x < cW q) ∧ 0 ≤ y ∧ y < cH q then b5 (5 * y.toNat + x.toNat) else 0) := by
  obtain ⟨q1, q2, q3, q4, -⟩ := h.1
  unfold f_X0_bitAt f_X0_bitAt_28 f_X0_bitAt_29
  rw [h.2.1, h.2.2.1]
  simp only [if_true]
  by_cases c1 : 0 ≤ x
  · rw [if_neg (by rw [zI_0, zI_lt (by omega) (by omega) (by omega) (by omega)]; omega)]
    by_cases c2 : x < cW q
    · rw [if_neg (by rw [zI_le (by omega) (by omega) (by omega) (by omega)]; omega)]
      by_cases c3 : 0 ≤ y
      · rw [if_neg (by rw [zI_0, zI_lt (by omega) (by omega) (by omega) (by omega)]; omega)]
        by_cases c4 : y < cH q
        · rw [if_neg (by rw [zI_le (by omega) (by omega) (by omega) (by omega)]; omega), if_neg (by decide), if_pos ⟨⟨c1, c2⟩, c3, c4⟩]
          unfold b5
          rw [zI_5, zI_mul, zI_add, show y * 5 + x = ((5 * y.toNat + x.toNat : Nat) : Int) by omega]
        · rw [if_pos (by rw [zI_le (by omega) (by omega) (by omega) (by omega)]; omega), if_neg (fun g => c4 g.2.2)]
      · rw [if_pos (by rw [zI_0, zI_lt (by omega) (by omega) (by omega) (by omega)]; omega), if_neg (fun g => c3 g.2.1)]
    · rw [if_pos (by rw [zI_le (by omega) (by omega) (by omega) (by omega)]; omega), if_neg (fun g => c2 g.1.2)]
  · rw [if_pos (by rw [zI_0, zI_lt (by omega) (by omega) (by omega) (by omega)]; omega), if_neg (fun g => c1 g.1.1)]
theorem c_bitOf1 {q : Cfg} {s : gS} (h : CB q s) {a : Nat} (ha : a < 2147483648) : ∀ (m r φ : Nat), r + m = cH q → m < φ → cW q * r ≤ a → f_X0_bitOf_8 φ s (zI a) (zI r) = some (if a < cN q then b5 (p5 q a) else 0)
  | 0, r, φ, hr, hf, hl => by
    obtain ⟨φ, rfl⟩ : ∃ m, φ = m + 1 := ⟨φ - 1, by omega⟩
    obtain ⟨q1, q2, q3, q4, -⟩ := h.1
    have e : r = cH q := by omega
    subst e
    rw [f_X0_bitOf_8, h.2.2.1, if_pos (by rw [zI_le (by omega) (by omega) (by omega) (by omega)]; omega), if_neg (by unfold cN; omega)]
  | m + 1, r, φ, hr, hf, hl => by
    obtain ⟨φ, rfl⟩ : ∃ m, φ = m + 1 := ⟨φ - 1, by omega⟩
    obtain ⟨q1, q2, q3, q4, -⟩ := h.1
    rw [f_X0_bitOf_8, h.2.2.1, if_neg (by rw [zI_le (by omega) (by omega) (by omega) (by omega)]; omega), h.2.1, zI_mul, zI_sub]
    have e1 : ((a : Int) - (r : Int) * (cW q : Int)) = ((a - cW q * r : Nat) : Int) := by
      rw [Int.mul_comm, ← Int.natCast_mul]
      omega
    rw [e1]
    by_cases c1 : a - cW q * r < cW q
    · have hx : a % cW q = a - cW q * r ∧ a / cW q = r := by
        have e2 : a = cW q * r + (a - cW q * r) := by omega
        have hw : 0 < cW q := by omega
        constructor
        · rw [e2, Nat.mul_add_mod, Nat.mod_eq_of_lt (by omega)]
          omega
        · rw [e2, Nat.mul_add_div hw, Nat.div_eq_of_lt (by omega), Nat.add_zero]
      have hN : a < cN q := by
        unfold cN
        have : cW q * (r + 1) ≤ cW q * cH q := Nat.mul_le_mul_left _ (by omega)
        rw [Nat.mul_add] at this
        omega
      rw [if_neg (by rw [zI_le (by omega) (by omega) (by omega) (by omega)]; omega), c_bitAt h (by omega) (by omega), if_pos (by omega), ob9, if_pos hN]
      unfold p5
      rw [hx.1, hx.2]
      rfl
    · rw [if_pos (by rw [zI_le (by omega) (by omega) (by omega) (by omega)]; omega), zsuc]
      exact c_bitOf1 h ha m (r + 1) φ (by omega) (by omega) (by rw [Nat.mul_add]; omega)
theorem c_bitOf {q : Cfg} {s : gS} (h : CB q s) {a : Int} (ha : -2147483648 ≤ a ∧ a < 2147483648) : f_X0_bitOf s (zI a) = some (if 0 ≤ a ∧ a < cN q then b5 (p5 q a.toNat) else 0) := by
  unfold f_X0_bitOf
  by_cases c1 : 0 ≤ a
  · rw [if_pos (by rw [zI_0, zI_le (by omega) (by omega) (by omega) (by omega)]; omega)]
    obtain ⟨q1, q2, q3, q4, -⟩ := h.1
    obtain ⟨m, hm⟩ := gf_big
    have := c_bitOf1 h (a := a.toNat) (by omega) (cH q) 0 gφ (by omega) (by omega) (by omega)
    rw [show ((a.toNat : Nat) : Int) = a by omega] at this
    rw [show (0 : Int32) = zI ((0 : Nat) : Int) from zI_0, this, ← show (0 : Int32) = zI ((0 : Nat) : Int) from zI_0]
    by_cases c2 : a < cN q
    · rw [if_pos (by omega), if_pos ⟨c1, c2⟩]
    · rw [if_neg (by omega), if_neg (fun g => c2 g.2)]
  · rw [if_neg (by rw [zI_0, zI_le (by omega) (by omega) (by omega) (by omega)]; omega), if_neg (fun g => c1 g.1)]
theorem bt_low : ∀ w : Fin 5, ∀ i : Fin 32, bt ((1 <<< (zI (w.val : Int) &&& 31)) - 1) i.val = decide (i.val < w.val) := by decide +kernel
theorem c_lay1 {W H : Nat} (hW : W ≤ 4) (hH : H ≤ 4) : ∀ (m r φ : Nat) (s : gS), r + m = H → m < φ → (∀ i, bt (s.1 6) i = decide (i < W)) → (∀ i, bt (s.1 5) i = decide (i % 5 < W ∧ i / 5 < r)) → ∃ u, f_X0_lay_76 φ s (zI H) (zI r) = some (zI 1, u) ∧ (∀ i, bt (u.1 5) i = decide (i % 5 < W ∧ i / 5 < H)) ∧ Kp [5] [] s u
  | 0, r, φ, s, hr, hf, h6, h5 => by
    obtain ⟨φ, rfl⟩ : ∃ m, φ = m + 1 := ⟨φ - 1, by omega⟩
    have e : r = H := by omega
    subst e
    rw [f_X0_lay_76, if_pos (by rw [zI_le (by omega) (by omega) (by omega) (by omega)]; omega)]
    exact ⟨s, by rw [zI_1], h5, Kp.rf⟩
  | m + 1, r, φ, s, hr, hf, h6, h5 => by
    obtain ⟨φ, rfl⟩ : ∃ m, φ = m + 1 := ⟨φ - 1, by omega⟩
    rw [f_X0_lay_76, if_neg (by rw [zI_le (by omega) (by omega) (by omega) (by omega)]; omega), zsuc]
    have e5 : zI (r : Int) * 5 = zI ((5 * r : Nat) : Int) := by rw [zI_5, zI_mul]; exact zI_c (by omega)
    rw [e5]
    obtain ⟨u, u1, u2, u3⟩ := c_lay1 hW hH m (r + 1) φ (ss s 5 (s.1 5 ||| s.1 6 <<< (zI ((5 * r : Nat) : Int) &&& 31))) (by omega) (by omega) (fun i => h6 i) (fun i => by
      rw [ss_n, if_pos rfl, bt_or, bt_shl _ (by omega), h5, h6]
      rw [Bool.eq_iff_iff]
      simp only [Bool.or_eq_true, Bool.and_eq_true, Bool.not_eq_true', decide_eq_true_eq, decide_eq_false_iff_not]
      omega)
    exact ⟨u, u1, u2, (Kp.ss (by decide) Kp.rf).tr u3⟩
/-- the boards that are allowed -/
def okG (w h k : Int) : Prop := (2 ≤ w ∧ w ≤ 4) ∧ (2 ≤ h ∧ h ≤ 4) ∧ (2 ≤ k ∧ k ≤ 4) ∧ (k ≤ w ∨ k ≤ h)
theorem c_side {a : Int} (ha : -2147483648 ≤ a ∧ a < 2147483648) : f_X0_isSide (zI a) = some (if 2 ≤ a ∧ a ≤ 4 then 1 else 0) := by
  unfold f_X0_isSide
  rw [zI_2, zI_4]
  by_cases c1 : a < 2
  · rw [if_pos (by rw [zI_lt (by omega) (by omega) (by omega) (by omega)]; omega), if_neg (by omega)]
  · rw [if_neg (by rw [zI_lt (by omega) (by omega) (by omega) (by omega)]; omega)]
    by_cases c2 : 4 < a
    · rw [if_pos (by rw [zI_lt (by omega) (by omega) (by omega) (by omega)]; omega), if_neg (by omega)]
    · rw [if_neg (by rw [zI_lt (by omega) (by omega) (by omega) (by omega)]; omega), if_pos (by omega)]
set_option maxHeartbeats 1000000 in
theorem c_lay {s : gS} {w h k : Int} {g l : Bool} (hw : -2147483648 ≤ w ∧ w < 2147483648) (hh : -2147483648 ≤ h ∧ h < 2147483648) (hk : -2147483648 ≤ k ∧ k < 2147483648) : (okG w h k → ∃ u, f_X0_lay s (zI w) (zI h) (zI k) (zI (bI g)) (zI (bI l)) = some (1, u) ∧ CB (w.toNat, h.toNat, k.toNat, g, l) u ∧ Kp [0, 1, 2, 3, 4, 5, 6] [] s u) ∧ (¬ okG w h k → f_X0_lay s (zI w) (zI h) (zI k) (zI (bI g)) (zI (bI l)) = some (0, s)) := by
  have e1 : ((if zI w < zI h then zI h else zI w) : Int32) = zI (if w < h then h else w) := by
    by_cases c : w < h
    · rw [if_pos c, if_pos (by rw [zI_lt (by omega) (by omega) (by omega) (by omega)]; omega)]
    · rw [if_neg c, if_neg (by rw [zI_lt (by omega) (by omega) (by omega) (by omega)]; omega)]
  have e2 : -2147483648 ≤ (if w < h then h else w) ∧ (if w < h then h else w) < 2147483648 := by
    by_cases c : w < h
    · rw [if_pos c]; omega
    · rw [if_neg c]; omega
  have e3 : (k ≤ (if w < h then h else w)) ↔ (k ≤ w ∨ k ≤ h) := by
    by_cases c : w < h
    · rw [if_pos c]; omega
    · rw [if_neg c]; omega
  unfold f_X0_lay
  rw [c_side hw, ob9, c_side hh, c_side hk, e1]
  constructor
  · rintro ⟨g1, g2, g3, g4⟩
    rw [if10, if_pos g1, ob9, if10, if_pos g2, ob9, if10, if_pos g3, if_pos (by rw [zI_le (by omega) (by omega) (by omega) (by omega)]; exact e3.mpr g4)]
    rw [if_pos (by cases g <;> decide), if_pos (by cases l <;> decide)]
    have ew : w = ((w.toNat : Nat) : Int) := by omega
    have eh : h = ((h.toNat : Nat) : Int) := by omega
    have ek : k = ((k.toNat : Nat) : Int) := by omega
    obtain ⟨m, hm⟩ := gf_big
    generalize hW : w.toNat = W at *
    generalize hH : h.toNat = H at *
    generalize hK : k.toNat = K at *
    subst ew eh ek
    obtain ⟨u, u1, u2, u3⟩ := c_lay1 (W := W) (H := H) (by omega) (by omega) H 0 gφ (ss (ss (ss (ss (ss (ss (ss s 0 (zI W)) 1 (zI H)) 2 (zI K)) 3 (zI (bI g))) 4 (zI (bI l))) 6 ((1 <<< (zI W &&& 31)) - 1)) 5 0) (by omega) (by omega) (fun i => by
      by_cases hi : i < 32
      · exact bt_low ⟨W, by omega⟩ ⟨i, hi⟩
      · rw [bt_ge (by omega)]
        simp
        omega) (fun i => by
      show bt 0 i = _
      rw [bt_0]
      simp)
    rw [z00] at u1
    rw [u1]
    refine ⟨u, by rw [zI_1], ⟨⟨?_, ?_, ?_, ?_, ?_, ?_⟩, ?_, ?_, ?_, ?_, ?_, u2, ?_⟩, ?_⟩
    · show 2 ≤ W; omega
    · show W ≤ 4; omega
    · show 2 ≤ H; omega
    · show H ≤ 4; omega
    · show 2 ≤ K; omega
    · show K ≤ 4; omega
    · rw [u3.1 0 (by decide)]; rfl
    · rw [u3.1 1 (by decide)]; rfl
    · rw [u3.1 2 (by decide)]; rfl
    · rw [u3.1 3 (by decide)]; rfl
    · rw [u3.1 4 (by decide)]; rfl
    · rw [u3.1 6 (by decide)]
      intro i
      by_cases hi : i < 32
      · exact bt_low ⟨W, by omega⟩ ⟨i, hi⟩
      · rw [bt_ge (by omega)]
        show false = decide (i < W)
        simp
        omega
    · refine Kp.tr ?_ (u3.mo (by decide) (by decide))
      exact (((((((Kp.rf).ss (by decide)).ss (by decide)).ss (by decide)).ss (by decide)).ss (by decide)).ss (by decide)).ss (by decide)
  · intro hn
    by_cases g1 : 2 ≤ w ∧ w ≤ 4
    · rw [if10, if_pos g1, ob9]
      by_cases g2 : 2 ≤ h ∧ h ≤ 4
      · rw [if10, if_pos g2, ob9]
        by_cases g3 : 2 ≤ k ∧ k ≤ 4
        · rw [if10, if_pos g3, if_neg (by
            rw [zI_le (by omega) (by omega) (by omega) (by omega)]
            intro g4
            exact hn ⟨g1, g2, g3, e3.mp g4⟩)]
        · rw [if10, if_neg g3]
      · rw [if10, if_neg g2]
    · rw [if10, if_neg g1]
