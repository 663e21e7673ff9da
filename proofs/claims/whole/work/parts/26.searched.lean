/-! THE MODEL's search, level by level -/
abbrev lpF (d n0 φ : Nat) (s : gS) (L : Nat) : Option (Int32 × gS) := f_X9_searched_75 φ s (zI d) (zI L) (zI ((n0 % 2 : Nat) : Int)) (zI n0)
theorem zcl {c : Nat} (h : c < 2147483648) : (zI (c : Int)).toNatClampNeg = c := by rw [zI_cl (by omega) (by omega)]; rfl
theorem zin {c N : Nat} (h : c < N) (hN : N < 2147483648) : inB (zI (c : Int)) N = true := by rw [zI_in (by omega) (by omega)]; simp only [decide_eq_true_eq]; omega
theorem zsuc (c : Nat) : zI (c : Int) + 1 = zI ((c + 1 : Nat) : Int) := by rw [zI_1, zI_add]; rfl
theorem zpred (c : Nat) : zI ((c + 1 : Nat) : Int) - 1 = zI (c : Int) := by rw [zI_1, zI_sub]; exact zI_c (by omega)
theorem cN_z (q : Cfg) : zI (cW q) * zI (cH q) = zI (cN q) := by rw [zI_mul]; unfold cN; rw [Int.natCast_mul]
theorem lv_par (n0 L : Nat) (h : n0 ≤ 16) (hL : L ≤ 6) : (zI ((n0 % 2 : Nat) : Int) + zI (L : Int)) - (zI ((n0 % 2 : Nat) : Int) + zI (L : Int)) / 2 * 2 = zI (((n0 + L) % 2 : Nat) : Int) := by
  rw [zI_add]
  have e : ((n0 % 2 : Nat) : Int) + (L : Int) = ((n0 % 2 + L : Nat) : Int) := by omega
  rw [e, zI_par (by omega)]
  exact zI_c (by omega)
/-- a level that has ended, above the first -/
theorem lp_up {q : Cfg} {s : gS} {d n0 L c : Nat} {v b : Int} (hq : okC q) (hs : MS q s) (hL : L + 1 < 6) (hf : s.2 24 (L + 1) = zI (cN q) ∨ s.2 23 (L + 1) = zI 1) (hv : s.2 23 (L + 1) = zI v) (hv2 : -2 ≤ v ∧ v ≤ 1) (hc : s.2 25 L = zI c) (hc2 : c < 16) (hb : s.2 23 L = zI b) (hb2 : -2 ≤ b ∧ b ≤ 1) (φ : Nat) :
    lpF d n0 (φ + 1) s (L + 1) = lpF d n0 φ (if -v ≤ b then sa s 22 c (zI 2) else sa (sa s 22 c (zI 2)) 23 L (zI (-v))) L := by
  have hN := okC_n hq
  have key : f_X9_searched_114 (f_X9_searched_75 φ) s (zI d) (zI ((L + 1 : Nat) : Int)) (zI ((n0 % 2 : Nat) : Int)) (zI n0) = lpF d n0 φ (if -v ≤ b then sa s 22 c (zI 2) else sa (sa s 22 c (zI 2)) 23 L (zI (-v))) L := by
    unfold f_X9_searched_114
    rw [zpred, zin hL (by omega), if_pos rfl, zI_0, ← zI_0]
    rw [if_pos (by rw [zI_0, zI_le (by omega) (by omega) (by omega) (by omega)]; omega), zin (show L < 6 by omega) (by omega), if_pos rfl, zcl (by omega), hc, zin hc2 (by omega), if_pos rfl, if_pos rfl, zcl (show L + 1 < _ by omega), hv, hb, zI_neg, zcl (show c < _ by omega), zI_2]
    by_cases e : -v ≤ b
    · rw [if_pos (by rw [zI_le (by omega) (by omega) (by omega) (by omega)]; exact e), if_pos e]
    · rw [if_neg (by rw [zI_le (by omega) (by omega) (by omega) (by omega)]; exact e), if_neg e, if_pos rfl]
  rw [lpF, f_X9_searched_75, if_neg (by rw [zI_0, zI_lt (by omega) (by omega) (by omega) (by omega)]; omega), zin hL (by omega), if_pos rfl, zcl (by omega), hs.1, hs.2.1, cN_z]
  by_cases e : s.2 24 (L + 1) = zI (cN q)
  · rw [if_pos e]
    exact key
  · rw [if_neg e, if_pos rfl, if_pos (by rw [zI_1]; exact hf.resolve_left e)]
    exact key
/-- the first level has ended -/
theorem lp_end {q : Cfg} {s : gS} {d n0 : Nat} {v : Int} (hq : okC q) (hs : MS q s) (hf : s.2 24 0 = zI (cN q) ∨ s.2 23 0 = zI 1) (hv : s.2 23 0 = zI v) (φ : Nat) :
    lpF d n0 (φ + 1) s 0 = some (zI v, s) := by
  have hN := okC_n hq
  have hc0 : (zI ((0 : Nat) : Int)).toNatClampNeg = 0 := zcl (by omega)
  have key : f_X9_searched_114 (f_X9_searched_75 φ) s (zI d) (zI ((0 : Nat) : Int)) (zI ((n0 % 2 : Nat) : Int)) (zI n0) = some (zI v, s) := by
    unfold f_X9_searched_114
    rw [zin (show 0 < 6 by omega) (by omega), if_pos rfl, if_neg (by rw [zI_1, zI_sub, zI_0, zI_le (by omega) (by omega) (by omega) (by omega)]; omega), hc0, hv]
  rw [lpF, f_X9_searched_75, if_neg (by rw [zI_0, zI_lt (by omega) (by omega) (by omega) (by omega)]; omega), zin (show 0 < 6 by omega) (by omega), if_pos rfl, hc0, hs.1, hs.2.1, cN_z]
  by_cases e : s.2 24 0 = zI (cN q)
  · rw [if_pos e]
    exact key
  · rw [if_neg e, if_pos rfl, if_pos (by rw [zI_1]; exact hf.resolve_left e)]
    exact key
/-- one cell more at a level -/
theorem lp_281 {s : gS} {d n0 L c : Nat} {v b : Int} (hL : L < 6) (hc : c < 16) (hb : s.2 23 L = zI b) (hb2 : -2 ≤ b ∧ b ≤ 1) (hv : -1 ≤ v ∧ v ≤ 1) (φ : Nat) :
    f_X9_searched_281 (f_X9_searched_75 φ) s (zI d) (zI L) (zI ((n0 % 2 : Nat) : Int)) (zI n0) (zI c) (zI v) = lpF d n0 φ (if v ≤ b then sa s 22 c (zI 2) else sa (sa s 22 c (zI 2)) 23 L (zI v)) L := by
  unfold f_X9_searched_281
  rw [zin hc (by omega), if_pos rfl, zin hL (by omega), if_pos rfl, zcl (show L < _ by omega), zcl (show c < _ by omega), hb, zI_2]
  by_cases e : v ≤ b
  · rw [if_pos (by rw [zI_le (by omega) (by omega) (by omega) (by omega)]; exact e), if_pos e]
  · rw [if_neg (by rw [zI_le (by omega) (by omega) (by omega) (by omega)]; exact e), if_neg e, if_pos rfl]
set_option maxHeartbeats 1000000 in
theorem lp_step {q : Cfg} {s : gS} {p : Nat → Nat} {d n0 L e c : Nat} {b : Int} (hq : okC q) (hs : MS q s) (hp : StB s p) (hd : L + e + 1 = d) (hd5 : d ≤ 5) (hn0 : n0 ≤ 16) (hc : s.2 24 L = zI c) (hcN : c < cN q) (hb : s.2 23 L = zI b) (hb2 : -2 ≤ b ∧ b ≤ 1) (hb1 : b ≠ 1) {v : Int} (hv : v = (if rowAt q p ((n0 + L) % 2) c = true then (if cL q = true then -1 else 1) else (0 : Int))) (φ : Nat) :
    lpF d n0 (φ + 1) s L = if isMv q p c = true then (if rowAt q p ((n0 + L) % 2) c = true ∨ n0 + L + 1 = cN q ∨ e = 0 then lpF d n0 φ (if v ≤ b then sa (sa (sa s 24 L (zI ((c + 1 : Nat) : Int))) 22 c (zI (((n0 + L) % 2 : Nat) : Int))) 22 c (zI 2) else sa (sa (sa (sa s 24 L (zI ((c + 1 : Nat) : Int))) 22 c (zI (((n0 + L) % 2 : Nat) : Int))) 22 c (zI 2)) 23 L (zI v)) L else lpF d n0 φ (sa (sa (sa (sa (sa s 24 L (zI ((c + 1 : Nat) : Int))) 22 c (zI (((n0 + L) % 2 : Nat) : Int))) 25 L (zI c)) 23 (L + 1) (zI (-2))) 24 (L + 1) (zI 0)) (L + 1)) else lpF d n0 φ (sa s 24 L (zI ((c + 1 : Nat) : Int))) L := by
  have hN := okC_n hq
  have hL : L < 6 := by omega
  have hbl := bI_le (cL q)
  rw [lpF, f_X9_searched_75, if_neg (by rw [zI_0, zI_lt (by omega) (by omega) (by omega) (by omega)]; omega), zin hL (by omega), if_pos rfl, zcl (show L < _ by omega), hs.1, hs.2.1, cN_z, hc, if_neg (by rw [zI_eq (by omega) (by omega) (by omega) (by omega)]; omega), if_pos rfl, hb, if_neg (by rw [zI_1, zI_eq (by omega) (by omega) (by omega) (by omega)]; exact hb1), if_pos rfl, if_pos rfl, zsuc]
  rw [m_isMove (s := sa s 24 L (zI ((c + 1 : Nat) : Int))) hq hs hp (by omega)]
  simp only [Option.bind_some, if10]
  have emv : (0 ≤ (c : Int) ∧ isMv q p (c : Int).toNat = true) = (isMv q p c = true) := by
    apply propext
    constructor
    · intro h; exact h.2
    · intro h; exact ⟨by omega, h⟩
  simp only [emv]
  by_cases c1 : isMv q p c = true
  · rw [if_pos c1, if_pos c1, zin (show c < 16 by omega) (by omega), if_pos rfl, lv_par n0 L hn0 (by omega), zcl (show c < _ by omega)]
    have hp2 : StB (sa (sa s 24 L (zI ((c + 1 : Nat) : Int))) 22 c (zI (((n0 + L) % 2 : Nat) : Int))) (set1 p c ((n0 + L) % 2)) := StB.set (s := sa s 24 L (zI ((c + 1 : Nat) : Int))) hp (by omega)
    rw [m_makesRow (s := sa (sa s 24 L (zI ((c + 1 : Nat) : Int))) 22 c (zI (((n0 + L) % 2 : Nat) : Int))) hq hs hp2 (by omega) hcN, rowAt_set]
    simp only [Option.bind_some, if10]
    have hb' : (sa (sa s 24 L (zI ((c + 1 : Nat) : Int))) 22 c (zI (((n0 + L) % 2 : Nat) : Int))).2 23 L = zI b := hb
    by_cases c2 : rowAt q p ((n0 + L) % 2) c = true
    · rw [if_pos c2] at hv
      rw [if_pos c2, if_pos (Or.inl c2), if_pos c2]
      unfold f_X9_searched_248 f_X9_searched_253
      rw [if_neg (by decide), if_neg (by decide)]
      show (if s.1 26 = 0 then _ else _) = _
      rw [hs.2.2.2.2]
      cases hl : cL q with
      | false =>
        rw [hl, if_neg (by decide)] at hv
        rw [if_pos (by decide), zI_1, lp_281 hL (by omega) hb' hb2 (by omega), hv]
      | true =>
        rw [hl, if_pos rfl] at hv
        rw [if_neg (by decide), zI_m1, lp_281 hL (by omega) hb' hb2 (by omega), hv]
    · rw [if_neg c2] at hv
      rw [if_neg c2, if_neg c2]
      have en : (zI (n0 : Int) + zI (L : Int)) + 1 = zI ((n0 + L + 1 : Nat) : Int) := by
        rw [zI_add, zI_1, zI_add]
        exact zI_c (by omega)
      have e48 : ∀ K, f_X9_searched_248 K (sa (sa s 24 L (zI ((c + 1 : Nat) : Int))) 22 c (zI (((n0 + L) % 2 : Nat) : Int))) (zI d) (zI L) (zI ((n0 % 2 : Nat) : Int)) (zI n0) (zI c) 0 = f_X9_searched_281 K (sa (sa s 24 L (zI ((c + 1 : Nat) : Int))) 22 c (zI (((n0 + L) % 2 : Nat) : Int))) (zI d) (zI L) (zI ((n0 % 2 : Nat) : Int)) (zI n0) (zI c) (zI 0) := by
        intro K
        unfold f_X9_searched_248 f_X9_searched_253
        rw [if_neg (by decide), if_pos rfl, ← zI_0]
      rw [en]
      by_cases c3 : n0 + L + 1 = cN q
      · rw [if_pos (by rw [c3]), if_pos (Or.inr (Or.inl c3)), e48, lp_281 hL (by omega) hb' hb2 (by omega), hv]
      · rw [if_neg (by rw [zI_eq (by omega) (by omega) (by omega) (by omega)]; omega)]
        by_cases c4 : e = 0
        · rw [if_pos (by rw [zsuc, zI_eq (by omega) (by omega) (by omega) (by omega)]; omega), if_pos (Or.inr (Or.inr c4)), e48, lp_281 hL (by omega) hb' hb2 (by omega), hv]
        · rw [if_neg (by rw [zsuc, zI_eq (by omega) (by omega) (by omega) (by omega)]; omega), if_neg (by
            intro h
            rcases h with h | h | h
            · exact c2 h
            · exact c3 h
            · exact c4 h)]
          unfold f_X9_searched_253
          rw [if_pos rfl, zin hL (by omega), if_pos rfl, zsuc, zin (show L + 1 < 6 by omega) (by omega), if_pos rfl, if_pos rfl, zcl (show L + 1 < _ by omega), zcl (show L < _ by omega), zI_m2, zI_0]
  · rw [if_neg c1, if_neg c1]
