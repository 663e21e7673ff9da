/-! LOOK, WEIGHT, GAME -/
def lkF (q : Cfg) (mv : Nat → Nat) (n D : Nat) (wt : Nat → Nat) (m z : Nat) (a : Int) : Int := if a = 0 then (cW q : Int) else if a = 1 then (cH q : Int) else if a = 2 then (cK q : Int) else if a = 3 then bI (cG q) else if a = 4 then bI (cL q) else if a = 5 then (n : Int) else if a = 6 then (rsF (winF q mv n) : Int) else if a = 7 then (if winF q mv n = 3 then ((n % 2 : Nat) : Int) else -1) else if a = 8 then (D : Int) else if a = 9 then (m : Int) else if a = 10 then (z : Int) else if 20 ≤ a ∧ a ≤ 19 + (n : Int) then (mv (a - 20).toNat : Int) else if 40 ≤ a ∧ a ≤ 39 + (cN q : Int) then (posF mv n (a - 40).toNat : Int) else if 60 ≤ a ∧ a ≤ 65 then (wt (a - 60).toNat : Int) else -1
theorem bI_if (b : Bool) : (if zI (bI b) = 0 then some (0 : Int32) else some 1) = some (zI (bI b)) := by cases b <;> decide
theorem bI_if2 (b : Bool) (s : gS) : (if zI (bI b) = 0 then some ((0 : Int32), s) else some (1, s)) = some (zI (bI b), s) := by cases b <;> rfl
theorem c_look_lo {q : Cfg} {mv : Nat → Nat} {n D m z : Nat} {wt : Nat → Nat} {s : gS} (h : Cg q mv n D s) (hw : ∀ k, k < 6 → s.2 1 k = zI (wt k)) (h12 : s.1 12 = zI m) (h13 : s.1 13 = zI z) {a : Int} (ha : a < 20) (hb : -2147483648 ≤ a) : f_X8_look s (zI a) = some (zI (lkF q mv n D wt m z a)) := by
  have hn := h.n16
  have hk := okC_n h.1.1
  have hw3 := winF_le q mv n
  rcases (show a = 0 ∨ a = 1 ∨ a = 2 ∨ a = 3 ∨ a = 4 ∨ a = 5 ∨ a = 6 ∨ a = 7 ∨ a = 8 ∨ a = 9 ∨ a = 10 ∨ (a < 0 ∨ 10 < a) by omega) with rfl | rfl | rfl | rfl | rfl | rfl | rfl | rfl | rfl | rfl | rfl | g
  · have e : lkF q mv n D wt m z 0 = (cW q : Int) := by unfold lkF; rw [if_pos (show (0 : Int) = 0 from rfl)]
    unfold f_X8_look f_X8_lookAtState
    rw [if_pos (show zI 0 < 60 by decide), if_pos (show zI 0 < 40 by decide), if_pos (show zI 0 < 20 by decide), if_pos (show zI 0 = 0 by decide), e]
    rw [h.1.2.1]; rfl
  · have e : lkF q mv n D wt m z 1 = (cH q : Int) := by unfold lkF; rw [if_neg (show ¬ (1 : Int) = 0 by decide), if_pos (show (1 : Int) = 1 from rfl)]
    unfold f_X8_look f_X8_lookAtState
    rw [if_pos (show zI 1 < 60 by decide), if_pos (show zI 1 < 40 by decide), if_pos (show zI 1 < 20 by decide), if_neg (show ¬ zI 1 = 0 by decide), if_pos (show zI 1 = 1 by decide), e]
    rw [h.1.2.2.1]; rfl
  · have e : lkF q mv n D wt m z 2 = (cK q : Int) := by unfold lkF; rw [if_neg (show ¬ (2 : Int) = 0 by decide), if_neg (show ¬ (2 : Int) = 1 by decide), if_pos (show (2 : Int) = 2 from rfl)]
    unfold f_X8_look f_X8_lookAtState
    rw [if_pos (show zI 2 < 60 by decide), if_pos (show zI 2 < 40 by decide), if_pos (show zI 2 < 20 by decide), if_neg (show ¬ zI 2 = 0 by decide), if_neg (show ¬ zI 2 = 1 by decide), if_pos (show zI 2 = 2 by decide), e]
    rw [h.1.2.2.2.1]; rfl
  · have e : lkF q mv n D wt m z 3 = bI (cG q) := by unfold lkF; rw [if_neg (show ¬ (3 : Int) = 0 by decide), if_neg (show ¬ (3 : Int) = 1 by decide), if_neg (show ¬ (3 : Int) = 2 by decide), if_pos (show (3 : Int) = 3 from rfl)]
    unfold f_X8_look f_X8_lookAtState
    rw [if_pos (show zI 3 < 60 by decide), if_pos (show zI 3 < 40 by decide), if_pos (show zI 3 < 20 by decide), if_neg (show ¬ zI 3 = 0 by decide), if_neg (show ¬ zI 3 = 1 by decide), if_neg (show ¬ zI 3 = 2 by decide), if_pos (show zI 3 = 3 by decide), e]
    rw [h.1.2.2.2.2.1, bI_if]; rfl
  · have e : lkF q mv n D wt m z 4 = bI (cL q) := by unfold lkF; rw [if_neg (show ¬ (4 : Int) = 0 by decide), if_neg (show ¬ (4 : Int) = 1 by decide), if_neg (show ¬ (4 : Int) = 2 by decide), if_neg (show ¬ (4 : Int) = 3 by decide), if_pos (show (4 : Int) = 4 from rfl)]
    unfold f_X8_look f_X8_lookAtState
    rw [if_pos (show zI 4 < 60 by decide), if_pos (show zI 4 < 40 by decide), if_pos (show zI 4 < 20 by decide), if_neg (show ¬ zI 4 = 0 by decide), if_neg (show ¬ zI 4 = 1 by decide), if_neg (show ¬ zI 4 = 2 by decide), if_neg (show ¬ zI 4 = 3 by decide), if_pos (show zI 4 = 4 by decide), e]
    rw [h.1.2.2.2.2.2.1, bI_if]; rfl
  · have e : lkF q mv n D wt m z 5 = (n : Int) := by unfold lkF; rw [if_neg (show ¬ (5 : Int) = 0 by decide), if_neg (show ¬ (5 : Int) = 1 by decide), if_neg (show ¬ (5 : Int) = 2 by decide), if_neg (show ¬ (5 : Int) = 3 by decide), if_neg (show ¬ (5 : Int) = 4 by decide), if_pos (show (5 : Int) = 5 from rfl)]
    unfold f_X8_look f_X8_lookAtState
    rw [if_pos (show zI 5 < 60 by decide), if_pos (show zI 5 < 40 by decide), if_pos (show zI 5 < 20 by decide), if_neg (show ¬ zI 5 = 0 by decide), if_neg (show ¬ zI 5 = 1 by decide), if_neg (show ¬ zI 5 = 2 by decide), if_neg (show ¬ zI 5 = 3 by decide), if_neg (show ¬ zI 5 = 4 by decide), if_pos (show zI 5 = 5 by decide), e]
    rw [h.2.1]; rfl
  · have e : lkF q mv n D wt m z 6 = (rsF (winF q mv n) : Int) := by unfold lkF; rw [if_neg (show ¬ (6 : Int) = 0 by decide), if_neg (show ¬ (6 : Int) = 1 by decide), if_neg (show ¬ (6 : Int) = 2 by decide), if_neg (show ¬ (6 : Int) = 3 by decide), if_neg (show ¬ (6 : Int) = 4 by decide), if_neg (show ¬ (6 : Int) = 5 by decide), if_pos (show (6 : Int) = 6 from rfl)]
    unfold f_X8_look f_X8_lookAtState
    rw [if_pos (show zI 6 < 60 by decide), if_pos (show zI 6 < 40 by decide), if_pos (show zI 6 < 20 by decide), if_neg (show ¬ zI 6 = 0 by decide), if_neg (show ¬ zI 6 = 1 by decide), if_neg (show ¬ zI 6 = 2 by decide), if_neg (show ¬ zI 6 = 3 by decide), if_neg (show ¬ zI 6 = 4 by decide), if_neg (show ¬ zI 6 = 5 by decide), if_pos (show zI 6 = 6 by decide), e]
    rw [h.2.2.2.2.1]; rfl
  · have e : lkF q mv n D wt m z 7 = (if winF q mv n = 3 then ((n % 2 : Nat) : Int) else -1) := by unfold lkF; rw [if_neg (show ¬ (7 : Int) = 0 by decide), if_neg (show ¬ (7 : Int) = 1 by decide), if_neg (show ¬ (7 : Int) = 2 by decide), if_neg (show ¬ (7 : Int) = 3 by decide), if_neg (show ¬ (7 : Int) = 4 by decide), if_neg (show ¬ (7 : Int) = 5 by decide), if_neg (show ¬ (7 : Int) = 6 by decide), if_pos (show (7 : Int) = 7 from rfl)]
    unfold f_X8_look f_X8_lookAtState
    rw [if_pos (show zI 7 < 60 by decide), if_pos (show zI 7 < 40 by decide), if_pos (show zI 7 < 20 by decide), if_neg (show ¬ zI 7 = 0 by decide), if_neg (show ¬ zI 7 = 1 by decide), if_neg (show ¬ zI 7 = 2 by decide), if_neg (show ¬ zI 7 = 3 by decide), if_neg (show ¬ zI 7 = 4 by decide), if_neg (show ¬ zI 7 = 5 by decide), if_neg (show ¬ zI 7 = 6 by decide), if_pos (show zI 7 = 7 by decide), e]
    rw [h.2.1, c_ended h (Nat.le_refl n), ob9, zand1 (by omega)]
    by_cases c : winF q mv n = 3
    · rw [if_pos c, if_pos rfl, if_pos c]; rfl
    · rw [if_neg c, if_neg (by decide), if_neg c]; rfl
  · have e : lkF q mv n D wt m z 8 = (D : Int) := by unfold lkF; rw [if_neg (show ¬ (8 : Int) = 0 by decide), if_neg (show ¬ (8 : Int) = 1 by decide), if_neg (show ¬ (8 : Int) = 2 by decide), if_neg (show ¬ (8 : Int) = 3 by decide), if_neg (show ¬ (8 : Int) = 4 by decide), if_neg (show ¬ (8 : Int) = 5 by decide), if_neg (show ¬ (8 : Int) = 6 by decide), if_neg (show ¬ (8 : Int) = 7 by decide), if_pos (show (8 : Int) = 8 from rfl)]
    unfold f_X8_look f_X8_lookAtState
    rw [if_pos (show zI 8 < 60 by decide), if_pos (show zI 8 < 40 by decide), if_pos (show zI 8 < 20 by decide), if_neg (show ¬ zI 8 = 0 by decide), if_neg (show ¬ zI 8 = 1 by decide), if_neg (show ¬ zI 8 = 2 by decide), if_neg (show ¬ zI 8 = 3 by decide), if_neg (show ¬ zI 8 = 4 by decide), if_neg (show ¬ zI 8 = 5 by decide), if_neg (show ¬ zI 8 = 6 by decide), if_neg (show ¬ zI 8 = 7 by decide), if_pos (show zI 8 = 8 by decide), e]
    rw [h.2.2.2.2.2.1]; rfl
  · have e : lkF q mv n D wt m z 9 = (m : Int) := by unfold lkF; rw [if_neg (show ¬ (9 : Int) = 0 by decide), if_neg (show ¬ (9 : Int) = 1 by decide), if_neg (show ¬ (9 : Int) = 2 by decide), if_neg (show ¬ (9 : Int) = 3 by decide), if_neg (show ¬ (9 : Int) = 4 by decide), if_neg (show ¬ (9 : Int) = 5 by decide), if_neg (show ¬ (9 : Int) = 6 by decide), if_neg (show ¬ (9 : Int) = 7 by decide), if_neg (show ¬ (9 : Int) = 8 by decide), if_pos (show (9 : Int) = 9 from rfl)]
    unfold f_X8_look f_X8_lookAtState
    rw [if_pos (show zI 9 < 60 by decide), if_pos (show zI 9 < 40 by decide), if_pos (show zI 9 < 20 by decide), if_neg (show ¬ zI 9 = 0 by decide), if_neg (show ¬ zI 9 = 1 by decide), if_neg (show ¬ zI 9 = 2 by decide), if_neg (show ¬ zI 9 = 3 by decide), if_neg (show ¬ zI 9 = 4 by decide), if_neg (show ¬ zI 9 = 5 by decide), if_neg (show ¬ zI 9 = 6 by decide), if_neg (show ¬ zI 9 = 7 by decide), if_neg (show ¬ zI 9 = 8 by decide), if_pos (show zI 9 = 9 by decide), e]
    rw [h12]; rfl
  · have e : lkF q mv n D wt m z 10 = (z : Int) := by unfold lkF; rw [if_neg (show ¬ (10 : Int) = 0 by decide), if_neg (show ¬ (10 : Int) = 1 by decide), if_neg (show ¬ (10 : Int) = 2 by decide), if_neg (show ¬ (10 : Int) = 3 by decide), if_neg (show ¬ (10 : Int) = 4 by decide), if_neg (show ¬ (10 : Int) = 5 by decide), if_neg (show ¬ (10 : Int) = 6 by decide), if_neg (show ¬ (10 : Int) = 7 by decide), if_neg (show ¬ (10 : Int) = 8 by decide), if_neg (show ¬ (10 : Int) = 9 by decide), if_pos (show (10 : Int) = 10 from rfl)]
    unfold f_X8_look f_X8_lookAtState
    rw [if_pos (show zI 10 < 60 by decide), if_pos (show zI 10 < 40 by decide), if_pos (show zI 10 < 20 by decide), if_neg (show ¬ zI 10 = 0 by decide), if_neg (show ¬ zI 10 = 1 by decide), if_neg (show ¬ zI 10 = 2 by decide), if_neg (show ¬ zI 10 = 3 by decide), if_neg (show ¬ zI 10 = 4 by decide), if_neg (show ¬ zI 10 = 5 by decide), if_neg (show ¬ zI 10 = 6 by decide), if_neg (show ¬ zI 10 = 7 by decide), if_neg (show ¬ zI 10 = 8 by decide), if_neg (show ¬ zI 10 = 9 by decide), if_pos (show zI 10 = 10 by decide), e]
    rw [h13]; rfl
  · have e : lkF q mv n D wt m z a = -1 := by
      unfold lkF
      rw [if_neg (show ¬ a = 0 by omega), if_neg (show ¬ a = 1 by omega), if_neg (show ¬ a = 2 by omega), if_neg (show ¬ a = 3 by omega), if_neg (show ¬ a = 4 by omega), if_neg (show ¬ a = 5 by omega), if_neg (show ¬ a = 6 by omega), if_neg (show ¬ a = 7 by omega), if_neg (show ¬ a = 8 by omega), if_neg (show ¬ a = 9 by omega), if_neg (show ¬ a = 10 by omega), if_neg (show ¬ (20 ≤ a ∧ a ≤ 19 + (n : Int)) by omega), if_neg (show ¬ (40 ≤ a ∧ a ≤ 39 + (cN q : Int)) by omega), if_neg (show ¬ (60 ≤ a ∧ a ≤ 65) by omega)]
    have n0 : ¬ zI a = 0 := by rw [zI_0, zI_eq (by omega) (by omega) (by omega) (by omega)]; omega
    have n1 : ¬ zI a = 1 := by rw [zI_1, zI_eq (by omega) (by omega) (by omega) (by omega)]; omega
    have n2 : ¬ zI a = 2 := by rw [zI_2, zI_eq (by omega) (by omega) (by omega) (by omega)]; omega
    have n3 : ¬ zI a = 3 := by rw [zI_3, zI_eq (by omega) (by omega) (by omega) (by omega)]; omega
    have n4 : ¬ zI a = 4 := by rw [zI_4, zI_eq (by omega) (by omega) (by omega) (by omega)]; omega
    have n5 : ¬ zI a = 5 := by rw [zI_5, zI_eq (by omega) (by omega) (by omega) (by omega)]; omega
    have n6 : ¬ zI a = 6 := by rw [zI_6, zI_eq (by omega) (by omega) (by omega) (by omega)]; omega
    have n7 : ¬ zI a = 7 := by rw [zI_7, zI_eq (by omega) (by omega) (by omega) (by omega)]; omega
    have n8 : ¬ zI a = 8 := by rw [zI_8, zI_eq (by omega) (by omega) (by omega) (by omega)]; omega
    have n9 : ¬ zI a = 9 := by rw [zI_9, zI_eq (by omega) (by omega) (by omega) (by omega)]; omega
    have n10 : ¬ zI a = 10 := by rw [zI_10, zI_eq (by omega) (by omega) (by omega) (by omega)]; omega
    unfold f_X8_look f_X8_lookAtState
    rw [if_pos (show zI a < 60 by rw [zI_60, zI_lt (by omega) (by omega) (by omega) (by omega)]; omega), if_pos (show zI a < 40 by rw [zI_40, zI_lt (by omega) (by omega) (by omega) (by omega)]; omega), if_pos (show zI a < 20 by rw [zI_20, zI_lt (by omega) (by omega) (by omega) (by omega)]; omega), if_neg n0, if_neg n1, if_neg n2, if_neg n3, if_neg n4, if_neg n5, if_neg n6, if_neg n7, if_neg n8, if_neg n9, if_neg n10, e]
    rfl
theorem c_look {q : Cfg} {mv : Nat → Nat} {n D m z : Nat} {wt : Nat → Nat} {s : gS} (h : Cg q mv n D s) (hw : ∀ k, k < 6 → s.2 1 k = zI (wt k)) (h12 : s.1 12 = zI m) (h13 : s.1 13 = zI z) {a : Int} (ha : -2147483648 ≤ a ∧ a < 2147483648) : f_X8_look s (zI a) = some (zI (lkF q mv n D wt m z a)) := by
  have hn := h.n16
  have hk := okC_n h.1.1
  by_cases c1 : a < 20
  · exact c_look_lo h hw h12 h13 c1 ha.1
  · have e : lkF q mv n D wt m z a = (if 20 ≤ a ∧ a ≤ 19 + (n : Int) then (mv (a - 20).toNat : Int) else if 40 ≤ a ∧ a ≤ 39 + (cN q : Int) then (posF mv n (a - 40).toNat : Int) else if 60 ≤ a ∧ a ≤ 65 then (wt (a - 60).toNat : Int) else -1) := by
      unfold lkF
      rw [if_neg (show ¬ a = 0 by omega), if_neg (show ¬ a = 1 by omega), if_neg (show ¬ a = 2 by omega), if_neg (show ¬ a = 3 by omega), if_neg (show ¬ a = 4 by omega), if_neg (show ¬ a = 5 by omega), if_neg (show ¬ a = 6 by omega), if_neg (show ¬ a = 7 by omega), if_neg (show ¬ a = 8 by omega), if_neg (show ¬ a = 9 by omega), if_neg (show ¬ a = 10 by omega)]
    rw [e]
    unfold f_X8_look
    by_cases c2 : a < 40
    · rw [if_pos (show zI a < 60 by rw [zI_60, zI_lt (by omega) (by omega) (by omega) (by omega)]; omega), if_pos (show zI a < 40 by rw [zI_40, zI_lt (by omega) (by omega) (by omega) (by omega)]; omega), if_neg (show ¬ zI a < 20 by rw [zI_20, zI_lt (by omega) (by omega) (by omega) (by omega)]; omega), zI_20, zI_sub, zI_1, zI_add, c_bitMv h (by omega), ob9]
      by_cases c3 : a ≤ 19 + (n : Int)
      · have i1 : (a - 20 + 1).toNat - 1 = (a - 20).toNat := by omega
        rw [if_pos (show 1 ≤ a - 20 + 1 ∧ a - 20 + 1 ≤ (n : Int) by omega), if_pos (show 20 ≤ a ∧ a ≤ 19 + (n : Int) by omega), i1, c_cell h.1 (okM_lt h.2.2.1 (by omega))]
        rfl
      · rw [if_neg (show ¬ (1 ≤ a - 20 + 1 ∧ a - 20 + 1 ≤ (n : Int)) by omega), if_neg (show ¬ (20 ≤ a ∧ a ≤ 19 + (n : Int)) by omega), if_neg (show ¬ (40 ≤ a ∧ a ≤ 39 + (cN q : Int)) by omega), if_neg (show ¬ (60 ≤ a ∧ a ≤ 65) by omega), c_cell0]
        rfl
    · by_cases c3 : a < 60
      · rw [if_pos (show zI a < 60 by rw [zI_60, zI_lt (by omega) (by omega) (by omega) (by omega)]; omega), if_neg (show ¬ zI a < 40 by rw [zI_40, zI_lt (by omega) (by omega) (by omega) (by omega)]; omega), zI_40, zI_sub, if_neg (show ¬ (20 ≤ a ∧ a ≤ 19 + (n : Int)) by omega), if_neg (show ¬ (60 ≤ a ∧ a ≤ 65) by omega)]
        unfold f_X8_ownerOf
        rw [c_bitOf h.1 (by omega), ob9]
        by_cases c4 : a ≤ 39 + (cN q : Int)
        · have hc : (a - 40).toNat < cN q := by omega
          have h19 := (p5_ok h.1.1 hc).2.2.1
          obtain ⟨x, x1, x2⟩ := c_stones h (v := 0) (by omega) (Nat.le_refl n)
          obtain ⟨y, y1, y2⟩ := c_stones h (v := 1) (by omega) (Nat.le_refl n)
          have hx := Mk.hit h.1.1 hc (fun c hc => x2.bit h.1.1 hc)
          have hy := Mk.hit h.1.1 hc (fun c hc => y2.bit h.1.1 hc)
          have hle := posF_le mv n (a - 40).toNat
          rw [decide_eq_false_iff_not] at hx hy
          rw [if_pos (show 0 ≤ a - 40 ∧ a - 40 < (cN q : Int) by omega), if_pos (show 40 ≤ a ∧ a ≤ 39 + (cN q : Int) by omega), if_neg (b5_nz (by omega)), h.2.1, show (0 : Int32) = zI ((0 : Nat) : Int) from rfl, show (1 : Int32) = zI ((1 : Nat) : Int) from rfl, x1, ob9, y1, ob9, show zI ((0 : Nat) : Int) = (0 : Int32) from rfl]
          by_cases d1 : posF mv n (a - 40).toNat = 0
          · rw [if_neg (fun g => hx.1 g d1), d1]
            rfl
          · rw [if_pos (hx.2 d1)]
            by_cases d2 : posF mv n (a - 40).toNat = 1
            · rw [if_neg (fun g => hy.1 g d2), d2]
              rfl
            · rw [if_pos (hy.2 d2), show posF mv n (a - 40).toNat = 2 by omega]
              rfl
        · rw [if_neg (show ¬ (0 ≤ a - 40 ∧ a - 40 < (cN q : Int)) by omega), if_neg (show ¬ (40 ≤ a ∧ a ≤ 39 + (cN q : Int)) by omega), if_pos rfl]
          rfl
      · rw [if_neg (show ¬ zI a < 60 by rw [zI_60, zI_lt (by omega) (by omega) (by omega) (by omega)]; omega), zI_60, zI_sub, if_neg (show ¬ (20 ≤ a ∧ a ≤ 19 + (n : Int)) by omega), if_neg (show ¬ (40 ≤ a ∧ a ≤ 39 + (cN q : Int)) by omega)]
        unfold f_X2_weightOf
        rw [if_neg (show ¬ zI (a - 60) < 0 by rw [zI_0, zI_lt (by omega) (by omega) (by omega) (by omega)]; omega)]
        by_cases c4 : a ≤ 65
        · obtain ⟨j, hj⟩ : ∃ j : Nat, a - 60 = (j : Int) := ⟨(a - 60).toNat, by omega⟩
          rw [if_neg (show ¬ 6 ≤ zI (a - 60) by rw [zI_6, zI_le (by omega) (by omega) (by omega) (by omega)]; omega), if_pos (show 60 ≤ a ∧ a ≤ 65 by omega), hj, if_pos (zin (by omega) (by omega)), zcl (by omega), hw j (by omega), Int.toNat_natCast]
          rfl
        · rw [if_pos (show 6 ≤ zI (a - 60) by rw [zI_6, zI_le (by omega) (by omega) (by omega) (by omega)]; omega), if_neg (show ¬ (60 ≤ a ∧ a ≤ 65) by omega)]
          rfl
theorem m_look {q : Cfg} {mv : Nat → Nat} {n D m z : Nat} {wt : Nat → Nat} {s : gS} (h : Mg q mv n D s) (hw : ∀ k, k < 6 → s.2 21 k = zI (wt k)) (h31 : s.1 31 = zI m) (h34 : s.1 34 = zI z) {a : Int} (ha : -2147483648 ≤ a ∧ a < 2147483648) : ∃ u, f_X9_look s (zI a) = some (zI (lkF q mv n D wt m z a), u) := by
  have hn := okM_n h.2.2.2.1
  have hk := okC_n h.1
  have hw3 := winF_le q mv n
  obtain ⟨t, t1, t2, t3, t4, t5⟩ := h.up (Nat.le_refl n)
  have hT := h.kp t5 (by decide)
  rcases (show a = 0 ∨ a = 1 ∨ a = 2 ∨ a = 3 ∨ a = 4 ∨ a = 5 ∨ a = 6 ∨ a = 7 ∨ a = 8 ∨ a = 9 ∨ a = 10 ∨ (a < 0 ∨ 10 < a) by omega) with rfl | rfl | rfl | rfl | rfl | rfl | rfl | rfl | rfl | rfl | rfl | g
  · have e : lkF q mv n D wt m z 0 = (cW q : Int) := by unfold lkF; rw [if_pos (show (0 : Int) = 0 from rfl)]
    unfold f_X9_look
    rw [if_pos (show zI 0 = 0 by decide), e]
    exact ⟨s, by rw [h.2.1.1]⟩
  · have e : lkF q mv n D wt m z 1 = (cH q : Int) := by unfold lkF; rw [if_neg (show ¬ (1 : Int) = 0 by decide), if_pos (show (1 : Int) = 1 from rfl)]
    unfold f_X9_look
    rw [if_neg (show ¬ zI 1 = 0 by decide), if_pos (show zI 1 = 1 by decide), e]
    exact ⟨s, by rw [h.2.1.2.1]⟩
  · have e : lkF q mv n D wt m z 2 = (cK q : Int) := by unfold lkF; rw [if_neg (show ¬ (2 : Int) = 0 by decide), if_neg (show ¬ (2 : Int) = 1 by decide), if_pos (show (2 : Int) = 2 from rfl)]
    unfold f_X9_look
    rw [if_neg (show ¬ zI 2 = 0 by decide), if_neg (show ¬ zI 2 = 1 by decide), if_pos (show zI 2 = 2 by decide), e]
    exact ⟨s, by rw [h.2.1.2.2.1]⟩
  · have e : lkF q mv n D wt m z 3 = bI (cG q) := by unfold lkF; rw [if_neg (show ¬ (3 : Int) = 0 by decide), if_neg (show ¬ (3 : Int) = 1 by decide), if_neg (show ¬ (3 : Int) = 2 by decide), if_pos (show (3 : Int) = 3 from rfl)]
    unfold f_X9_look
    rw [if_neg (show ¬ zI 3 = 0 by decide), if_neg (show ¬ zI 3 = 1 by decide), if_neg (show ¬ zI 3 = 2 by decide), if_pos (show zI 3 = 3 by decide), e]
    exact ⟨s, by rw [h.2.1.2.2.2.1, bI_if2]⟩
  · have e : lkF q mv n D wt m z 4 = bI (cL q) := by unfold lkF; rw [if_neg (show ¬ (4 : Int) = 0 by decide), if_neg (show ¬ (4 : Int) = 1 by decide), if_neg (show ¬ (4 : Int) = 2 by decide), if_neg (show ¬ (4 : Int) = 3 by decide), if_pos (show (4 : Int) = 4 from rfl)]
    unfold f_X9_look
    rw [if_neg (show ¬ zI 4 = 0 by decide), if_neg (show ¬ zI 4 = 1 by decide), if_neg (show ¬ zI 4 = 2 by decide), if_neg (show ¬ zI 4 = 3 by decide), if_pos (show zI 4 = 4 by decide), e]
    exact ⟨s, by rw [h.2.1.2.2.2.2, bI_if2]⟩
  · have e : lkF q mv n D wt m z 5 = (n : Int) := by unfold lkF; rw [if_neg (show ¬ (5 : Int) = 0 by decide), if_neg (show ¬ (5 : Int) = 1 by decide), if_neg (show ¬ (5 : Int) = 2 by decide), if_neg (show ¬ (5 : Int) = 3 by decide), if_neg (show ¬ (5 : Int) = 4 by decide), if_pos (show (5 : Int) = 5 from rfl)]
    unfold f_X9_look
    rw [if_neg (show ¬ zI 5 = 0 by decide), if_neg (show ¬ zI 5 = 1 by decide), if_neg (show ¬ zI 5 = 2 by decide), if_neg (show ¬ zI 5 = 3 by decide), if_neg (show ¬ zI 5 = 4 by decide), if_pos (show zI 5 = 5 by decide), e]
    exact ⟨s, by rw [h.2.2.1]⟩
  · have e : lkF q mv n D wt m z 6 = (rsF (winF q mv n) : Int) := by unfold lkF; rw [if_neg (show ¬ (6 : Int) = 0 by decide), if_neg (show ¬ (6 : Int) = 1 by decide), if_neg (show ¬ (6 : Int) = 2 by decide), if_neg (show ¬ (6 : Int) = 3 by decide), if_neg (show ¬ (6 : Int) = 4 by decide), if_neg (show ¬ (6 : Int) = 5 by decide), if_pos (show (6 : Int) = 6 from rfl)]
    unfold f_X9_look
    rw [if_neg (show ¬ zI 6 = 0 by decide), if_neg (show ¬ zI 6 = 1 by decide), if_neg (show ¬ zI 6 = 2 by decide), if_neg (show ¬ zI 6 = 3 by decide), if_neg (show ¬ zI 6 = 4 by decide), if_neg (show ¬ zI 6 = 5 by decide), if_pos (show zI 6 = 6 by decide), e]
    rw [h.2.2.1, t1, ob9, t4]
    refine ⟨t, ?_⟩
    unfold rsF
    by_cases c : winF q mv n = 3
    · rw [if_pos (show zI (winF q mv n : Nat) = 3 by rw [c]; rfl), if_pos c]; rfl
    · rw [if_neg (show ¬ zI (winF q mv n : Nat) = 3 by rw [zI_3, zI_eq (by omega) (by omega) (by omega) (by omega)]; omega), if_neg c, zsuc]
  · have e : lkF q mv n D wt m z 7 = (if winF q mv n = 3 then ((n % 2 : Nat) : Int) else -1) := by unfold lkF; rw [if_neg (show ¬ (7 : Int) = 0 by decide), if_neg (show ¬ (7 : Int) = 1 by decide), if_neg (show ¬ (7 : Int) = 2 by decide), if_neg (show ¬ (7 : Int) = 3 by decide), if_neg (show ¬ (7 : Int) = 4 by decide), if_neg (show ¬ (7 : Int) = 5 by decide), if_neg (show ¬ (7 : Int) = 6 by decide), if_pos (show (7 : Int) = 7 from rfl)]
    unfold f_X9_look
    rw [if_neg (show ¬ zI 7 = 0 by decide), if_neg (show ¬ zI 7 = 1 by decide), if_neg (show ¬ zI 7 = 2 by decide), if_neg (show ¬ zI 7 = 3 by decide), if_neg (show ¬ zI 7 = 4 by decide), if_neg (show ¬ zI 7 = 5 by decide), if_neg (show ¬ zI 7 = 6 by decide), if_pos (show zI 7 = 7 by decide), e]
    rw [h.2.2.1, t1, ob9, t4, hT.2.2.1, zI_par (by omega)]
    refine ⟨t, ?_⟩
    by_cases c : winF q mv n = 3
    · rw [if_pos (show zI (winF q mv n : Nat) = 3 by rw [c]; rfl), if_pos c]
    · rw [if_neg (show ¬ zI (winF q mv n : Nat) = 3 by rw [zI_3, zI_eq (by omega) (by omega) (by omega) (by omega)]; omega), if_neg c, zI_m1]
  · have e : lkF q mv n D wt m z 8 = (D : Int) := by unfold lkF; rw [if_neg (show ¬ (8 : Int) = 0 by decide), if_neg (show ¬ (8 : Int) = 1 by decide), if_neg (show ¬ (8 : Int) = 2 by decide), if_neg (show ¬ (8 : Int) = 3 by decide), if_neg (show ¬ (8 : Int) = 4 by decide), if_neg (show ¬ (8 : Int) = 5 by decide), if_neg (show ¬ (8 : Int) = 6 by decide), if_neg (show ¬ (8 : Int) = 7 by decide), if_pos (show (8 : Int) = 8 from rfl)]
    unfold f_X9_look
    rw [if_neg (show ¬ zI 8 = 0 by decide), if_neg (show ¬ zI 8 = 1 by decide), if_neg (show ¬ zI 8 = 2 by decide), if_neg (show ¬ zI 8 = 3 by decide), if_neg (show ¬ zI 8 = 4 by decide), if_neg (show ¬ zI 8 = 5 by decide), if_neg (show ¬ zI 8 = 6 by decide), if_neg (show ¬ zI 8 = 7 by decide), if_pos (show zI 8 = 8 by decide), e]
    exact ⟨s, by rw [h.2.2.2.2.2.1]⟩
  · have e : lkF q mv n D wt m z 9 = (m : Int) := by unfold lkF; rw [if_neg (show ¬ (9 : Int) = 0 by decide), if_neg (show ¬ (9 : Int) = 1 by decide), if_neg (show ¬ (9 : Int) = 2 by decide), if_neg (show ¬ (9 : Int) = 3 by decide), if_neg (show ¬ (9 : Int) = 4 by decide), if_neg (show ¬ (9 : Int) = 5 by decide), if_neg (show ¬ (9 : Int) = 6 by decide), if_neg (show ¬ (9 : Int) = 7 by decide), if_neg (show ¬ (9 : Int) = 8 by decide), if_pos (show (9 : Int) = 9 from rfl)]
    unfold f_X9_look
    rw [if_neg (show ¬ zI 9 = 0 by decide), if_neg (show ¬ zI 9 = 1 by decide), if_neg (show ¬ zI 9 = 2 by decide), if_neg (show ¬ zI 9 = 3 by decide), if_neg (show ¬ zI 9 = 4 by decide), if_neg (show ¬ zI 9 = 5 by decide), if_neg (show ¬ zI 9 = 6 by decide), if_neg (show ¬ zI 9 = 7 by decide), if_neg (show ¬ zI 9 = 8 by decide), if_pos (show zI 9 = 9 by decide), e]
    exact ⟨s, by rw [h31]⟩
  · have e : lkF q mv n D wt m z 10 = (z : Int) := by unfold lkF; rw [if_neg (show ¬ (10 : Int) = 0 by decide), if_neg (show ¬ (10 : Int) = 1 by decide), if_neg (show ¬ (10 : Int) = 2 by decide), if_neg (show ¬ (10 : Int) = 3 by decide), if_neg (show ¬ (10 : Int) = 4 by decide), if_neg (show ¬ (10 : Int) = 5 by decide), if_neg (show ¬ (10 : Int) = 6 by decide), if_neg (show ¬ (10 : Int) = 7 by decide), if_neg (show ¬ (10 : Int) = 8 by decide), if_neg (show ¬ (10 : Int) = 9 by decide), if_pos (show (10 : Int) = 10 from rfl)]
    unfold f_X9_look
    rw [if_neg (show ¬ zI 10 = 0 by decide), if_neg (show ¬ zI 10 = 1 by decide), if_neg (show ¬ zI 10 = 2 by decide), if_neg (show ¬ zI 10 = 3 by decide), if_neg (show ¬ zI 10 = 4 by decide), if_neg (show ¬ zI 10 = 5 by decide), if_neg (show ¬ zI 10 = 6 by decide), if_neg (show ¬ zI 10 = 7 by decide), if_neg (show ¬ zI 10 = 8 by decide), if_neg (show ¬ zI 10 = 9 by decide), if_pos (show zI 10 = 10 by decide), e]
    exact ⟨s, by rw [h34]⟩
  · have n0 : ¬ zI a = 0 := by rw [zI_0, zI_eq (by omega) (by omega) (by omega) (by omega)]; omega
    have n1 : ¬ zI a = 1 := by rw [zI_1, zI_eq (by omega) (by omega) (by omega) (by omega)]; omega
    have n2 : ¬ zI a = 2 := by rw [zI_2, zI_eq (by omega) (by omega) (by omega) (by omega)]; omega
    have n3 : ¬ zI a = 3 := by rw [zI_3, zI_eq (by omega) (by omega) (by omega) (by omega)]; omega
    have n4 : ¬ zI a = 4 := by rw [zI_4, zI_eq (by omega) (by omega) (by omega) (by omega)]; omega
    have n5 : ¬ zI a = 5 := by rw [zI_5, zI_eq (by omega) (by omega) (by omega) (by omega)]; omega
    have n6 : ¬ zI a = 6 := by rw [zI_6, zI_eq (by omega) (by omega) (by omega) (by omega)]; omega
    have n7 : ¬ zI a = 7 := by rw [zI_7, zI_eq (by omega) (by omega) (by omega) (by omega)]; omega
    have n8 : ¬ zI a = 8 := by rw [zI_8, zI_eq (by omega) (by omega) (by omega) (by omega)]; omega
    have n9 : ¬ zI a = 9 := by rw [zI_9, zI_eq (by omega) (by omega) (by omega) (by omega)]; omega
    have n10 : ¬ zI a = 10 := by rw [zI_10, zI_eq (by omega) (by omega) (by omega) (by omega)]; omega
    have e : lkF q mv n D wt m z a = (if 20 ≤ a ∧ a ≤ 19 + (n : Int) then (mv (a - 20).toNat : Int) else if 40 ≤ a ∧ a ≤ 39 + (cN q : Int) then (posF mv n (a - 40).toNat : Int) else if 60 ≤ a ∧ a ≤ 65 then (wt (a - 60).toNat : Int) else -1) := by
      unfold lkF
      rw [if_neg (show ¬ a = 0 by omega), if_neg (show ¬ a = 1 by omega), if_neg (show ¬ a = 2 by omega), if_neg (show ¬ a = 3 by omega), if_neg (show ¬ a = 4 by omega), if_neg (show ¬ a = 5 by omega), if_neg (show ¬ a = 6 by omega), if_neg (show ¬ a = 7 by omega), if_neg (show ¬ a = 8 by omega), if_neg (show ¬ a = 9 by omega), if_neg (show ¬ a = 10 by omega)]
    unfold f_X9_look f_X9_lookFar
    rw [if_neg n0, if_neg n1, if_neg n2, if_neg n3, if_neg n4, if_neg n5, if_neg n6, if_neg n7, if_neg n8, if_neg n9, if_neg n10, e, h.2.2.1, h.2.1.1, h.2.1.2.1, cN_z, show (20 : Int32) = zI 20 by decide, show (19 : Int32) = zI 19 by decide, show (40 : Int32) = zI 40 by decide, show (39 : Int32) = zI 39 by decide, show (60 : Int32) = zI 60 by decide, show (65 : Int32) = zI 65 by decide, zI_add, zI_add, m_in ha (by omega) (by omega), ob9, if10, m_in ha (by omega) (by omega), ob9, if10, m_in ha (by omega) (by omega), ob9, if10]
    by_cases c1 : 20 ≤ a ∧ a ≤ 19 + (n : Int)
    · obtain ⟨j, hj⟩ : ∃ j : Nat, a - 20 = (j : Int) := ⟨(a - 20).toNat, by omega⟩
      rw [if_pos c1, if_pos c1, zI_sub, hj, if_pos (zin (by omega) (by omega)), zcl (by omega), h.2.2.2.2.1 j (by omega), Int.toNat_natCast]
      exact ⟨s, rfl⟩
    · rw [if_neg c1, if_neg c1]
      by_cases c2 : 40 ≤ a ∧ a ≤ 39 + (cN q : Int)
      · obtain ⟨j, hj⟩ : ∃ j : Nat, a - 40 = (j : Int) := ⟨(a - 40).toNat, by omega⟩
        rw [if_pos c2, if_pos c2, t1, ob9, zI_sub, hj, if_pos (zin (by omega) (by omega)), zcl (by omega), t2.2 j (by omega), Int.toNat_natCast]
        exact ⟨t, rfl⟩
      · rw [if_neg c2, if_neg c2]
        by_cases c3 : 60 ≤ a ∧ a ≤ 65
        · obtain ⟨j, hj⟩ : ∃ j : Nat, a - 60 = (j : Int) := ⟨(a - 60).toNat, by omega⟩
          rw [if_pos c3, if_pos c3, zI_sub, hj, if_pos (zin (by omega) (by omega)), zcl (by omega), hw j (by omega), Int.toNat_natCast]
          exact ⟨s, rfl⟩
        · rw [if_neg c3, if_neg c3]
          exact ⟨s, by rw [← zI_m1]; rfl⟩
def wtS (wt : Nat → Nat) (a b : Int) : Nat → Nat := if (0 ≤ a ∧ a ≤ 5) ∧ 0 ≤ b ∧ b ≤ 99 then (fun k => if k = a.toNat then b.toNat else wt k) else wt
theorem wtS_le {wt : Nat → Nat} (h : ∀ k, wt k ≤ 99) (a b : Int) : ∀ k, wtS wt a b k ≤ 99 := fun k => by
  unfold wtS
  by_cases c : (0 ≤ a ∧ a ≤ 5) ∧ 0 ≤ b ∧ b ≤ 99
  · rw [if_pos c]
    show (if k = a.toNat then b.toNat else wt k) ≤ 99
    by_cases e : k = a.toNat
    · rw [if_pos e]; omega
    · rw [if_neg e]; exact h k
  · rw [if_neg c]; exact h k
theorem wt_row {wt : Nat → Nat} {s : gS} {r : Nat} {a b : Int} (h : ∀ k, k < 6 → s.2 r k = zI (wt k)) (ha : 0 ≤ a ∧ a ≤ 5) (hb : 0 ≤ b ∧ b ≤ 99) : ∀ k, k < 6 → (sa s r a.toNat (zI b)).2 r k = zI (wtS wt a b k) := fun k hk => by
  unfold wtS
  rw [if_pos ⟨ha, hb⟩, sa_at]
  show _ = zI ((if k = a.toNat then b.toNat else wt k : Nat) : Int)
  by_cases e : k = a.toNat
  · rw [if_pos ⟨rfl, e⟩, if_pos e]
    exact zI_c (by omega)
  · rw [if_neg (fun g => e g.2), if_neg e]
    exact h k hk
theorem c_weight {wt : Nat → Nat} {s : gS} {a b : Int} (h : ∀ k, k < 6 → s.2 1 k = zI (wt k)) (ha : -2147483648 ≤ a ∧ a < 2147483648) (hb : -2147483648 ≤ b ∧ b < 2147483648) : ∃ u, f_X8_weight s (zI a) (zI b) = some (zI (if (0 ≤ a ∧ a ≤ 5) ∧ 0 ≤ b ∧ b ≤ 99 then 1 else 0), u) ∧ (∀ k, k < 6 → u.2 1 k = zI (wtS wt a b k)) := by
  have no : ¬ ((0 ≤ a ∧ a ≤ 5) ∧ 0 ≤ b ∧ b ≤ 99) → ∃ u, ((some ((0 : Int32), s)).bind fun r1 => if isZ r1.1 = true then some (r1.1, r1.2) else none) = some (zI (if (0 ≤ a ∧ a ≤ 5) ∧ 0 ≤ b ∧ b ≤ 99 then 1 else 0), u) ∧ (∀ k, k < 6 → u.2 1 k = zI (wtS wt a b k)) := fun g => by
    refine ⟨s, ?_, fun k hk => ?_⟩
    · rw [if_neg g]; rfl
    · unfold wtS
      rw [if_neg g]
      exact h k hk
  unfold f_X8_weight f_X2_tellWeight
  by_cases c1 : a < 0
  · rw [if_pos (show zI a < 0 by rw [zI_0, zI_lt (by omega) (by omega) (by omega) (by omega)]; omega)]
    exact no (by omega)
  · rw [if_neg (show ¬ zI a < 0 by rw [zI_0, zI_lt (by omega) (by omega) (by omega) (by omega)]; omega)]
    by_cases c2 : 6 ≤ a
    · rw [if_pos (show 6 ≤ zI a by rw [zI_6, zI_le (by omega) (by omega) (by omega) (by omega)]; omega)]
      exact no (by omega)
    · rw [if_neg (show ¬ 6 ≤ zI a by rw [zI_6, zI_le (by omega) (by omega) (by omega) (by omega)]; omega)]
      by_cases c3 : b < 0
      · rw [if_pos (show zI b < 0 by rw [zI_0, zI_lt (by omega) (by omega) (by omega) (by omega)]; omega)]
        exact no (by omega)
      · rw [if_neg (show ¬ zI b < 0 by rw [zI_0, zI_lt (by omega) (by omega) (by omega) (by omega)]; omega)]
        by_cases c4 : b ≤ 99
        · rw [if_pos (show zI b ≤ 99 by rw [zI_99, zI_le (by omega) (by omega) (by omega) (by omega)]; omega), if_pos (show inB (zI a) 6 = true by rw [zI_in (by omega) (by omega), decide_eq_true_eq]; omega), zI_cl (by omega) (by omega)]
          refine ⟨sa s 1 a.toNat (zI b), ?_, wt_row h (by omega) (by omega)⟩
          rw [if_pos (show (0 ≤ a ∧ a ≤ 5) ∧ 0 ≤ b ∧ b ≤ 99 by omega)]
          rfl
        · rw [if_neg (show ¬ zI b ≤ 99 by rw [zI_99, zI_le (by omega) (by omega) (by omega) (by omega)]; omega)]
          exact no (by omega)
theorem m_weight {wt : Nat → Nat} {s : gS} {a b : Int} (h : ∀ k, k < 6 → s.2 21 k = zI (wt k)) (ha : -2147483648 ≤ a ∧ a < 2147483648) (hb : -2147483648 ≤ b ∧ b < 2147483648) : ∃ u, f_X9_weight s (zI a) (zI b) = some (zI (if (0 ≤ a ∧ a ≤ 5) ∧ 0 ≤ b ∧ b ≤ 99 then 1 else 0), u) ∧ (∀ k, k < 6 → u.2 21 k = zI (wtS wt a b k)) := by
  have no : ¬ ((0 ≤ a ∧ a ≤ 5) ∧ 0 ≤ b ∧ b ≤ 99) → ∃ u, some ((0 : Int32), s) = some (zI (if (0 ≤ a ∧ a ≤ 5) ∧ 0 ≤ b ∧ b ≤ 99 then 1 else 0), u) ∧ (∀ k, k < 6 → u.2 21 k = zI (wtS wt a b k)) := fun g => by
    refine ⟨s, ?_, fun k hk => ?_⟩
    · rw [if_neg g]; rfl
    · unfold wtS
      rw [if_neg g]
      exact h k hk
  unfold f_X9_weight
  rw [show f_X9_in (zI a) 0 5 = some (if 0 ≤ a ∧ a ≤ 5 then 1 else 0) from m_in (b := 0) (c := 5) ha (by omega) (by omega), ob9, if10, show f_X9_in (zI b) 0 99 = some (if 0 ≤ b ∧ b ≤ 99 then 1 else 0) from m_in (b := 0) (c := 99) hb (by omega) (by omega), ob9, if10]
  by_cases c1 : 0 ≤ a ∧ a ≤ 5
  · rw [if_pos c1]
    by_cases c2 : 0 ≤ b ∧ b ≤ 99
    · rw [if_pos c2, if_pos (show inB (zI a) 6 = true by rw [zI_in (by omega) (by omega), decide_eq_true_eq]; omega), zI_cl (by omega) (by omega)]
      refine ⟨sa s 21 a.toNat (zI b), ?_, wt_row h c1 c2⟩
      rw [if_pos ⟨c1, c2⟩]
      rfl
    · rw [if_neg c2]
      exact no (fun g => c2 g.2)
  · rw [if_neg c1]
    exact no (fun g => c1 g.1)
theorem m_game {q : Cfg} {mv : Nat → Nat} {n D : Nat} {s : gS} (hh : MG q mv n D s) {w h k : Int} {g l : Bool} (hw : -2147483648 ≤ w ∧ w < 2147483648) (hh2 : -2147483648 ≤ h ∧ h < 2147483648) (hk : -2147483648 ≤ k ∧ k < 2147483648) : (okG w h k → ∃ u, f_X9_game s (zI w) (zI h) (zI k) (zI (bI g)) (zI (bI l)) = some (1, u) ∧ MG (w.toNat, h.toNat, k.toNat, g, l) mv 0 D u) ∧ (¬ okG w h k → f_X9_game s (zI w) (zI h) (zI k) (zI (bI g)) (zI (bI l)) = some (0, s)) := by
  have zb : ∀ b : Bool, isZ (zI (bI b)) = true := fun b => by cases b <;> decide
  unfold f_X9_game
  rw [show f_X9_in (zI w) 2 4 = some (if 2 ≤ w ∧ w ≤ 4 then 1 else 0) from m_in (b := 2) (c := 4) hw (by omega) (by omega), ob9, if10, show f_X9_in (zI h) 2 4 = some (if 2 ≤ h ∧ h ≤ 4 then 1 else 0) from m_in (b := 2) (c := 4) hh2 (by omega) (by omega), ob9, if10, show f_X9_in (zI k) 2 4 = some (if 2 ≤ k ∧ k ≤ 4 then 1 else 0) from m_in (b := 2) (c := 4) hk (by omega) (by omega), ob9, if10]
  constructor
  · rintro ⟨h1, h2, h3, h4⟩
    rw [if_pos h1, if_pos h2, if_pos h3]
    have e39 : (if zI k ≤ zI w then f_X9_game_39 s (zI w) (zI h) (zI k) (zI (bI g)) (zI (bI l)) else if zI k ≤ zI h then f_X9_game_39 s (zI w) (zI h) (zI k) (zI (bI g)) (zI (bI l)) else some (0, s)) = f_X9_game_39 s (zI w) (zI h) (zI k) (zI (bI g)) (zI (bI l)) := by
      by_cases c : k ≤ w
      · rw [if_pos (show zI k ≤ zI w by rw [zI_le (by omega) (by omega) (by omega) (by omega)]; omega)]
      · rw [if_neg (show ¬ zI k ≤ zI w by rw [zI_le (by omega) (by omega) (by omega) (by omega)]; omega), if_pos (show zI k ≤ zI h by rw [zI_le (by omega) (by omega) (by omega) (by omega)]; omega)]
    rw [e39]
    unfold f_X9_game_39
    rw [if_pos (zb g), if_pos (zb l)]
    obtain ⟨t, t1, t2, t3⟩ := m_forgets (ss (ss (ss (ss (ss (ss s 20 (zI w)) 21 (zI h)) 22 (zI k)) 25 (zI (bI g))) 26 (zI (bI l))) 23 0)
    rw [t1, ob9]
    refine ⟨t, rfl, ⟨?_, ⟨?_, ?_, ?_, ?_, ?_⟩, ?_, fun i hi => by omega, fun i hi => by omega, ?_, hh.1.2.2.2.2.2.2⟩, Lc.new (by omega) t2⟩
    · show 2 ≤ w.toNat ∧ w.toNat ≤ 4 ∧ 2 ≤ h.toNat ∧ h.toNat ≤ 4 ∧ 2 ≤ k.toNat ∧ k.toNat ≤ 4
      omega
    · rw [t3.1 20 (by decide)]
      show zI w = zI ((w.toNat : Nat) : Int)
      exact zI_c (by omega)
    · rw [t3.1 21 (by decide)]
      show zI h = zI ((h.toNat : Nat) : Int)
      exact zI_c (by omega)
    · rw [t3.1 22 (by decide)]
      show zI k = zI ((k.toNat : Nat) : Int)
      exact zI_c (by omega)
    · rw [t3.1 25 (by decide)]
      rfl
    · rw [t3.1 26 (by decide)]
      rfl
    · rw [t3.1 23 (by decide)]
      rfl
    · rw [t3.1 24 (by decide)]
      exact hh.1.2.2.2.2.2.1
  · intro hn
    by_cases c1 : 2 ≤ w ∧ w ≤ 4
    · rw [if_pos c1]
      by_cases c2 : 2 ≤ h ∧ h ≤ 4
      · rw [if_pos c2]
        by_cases c3 : 2 ≤ k ∧ k ≤ 4
        · have hn2 : ¬ (k ≤ w ∨ k ≤ h) := fun g => hn ⟨c1, c2, c3, g⟩
          rw [if_pos c3, if_neg (show ¬ zI k ≤ zI w by rw [zI_le (by omega) (by omega) (by omega) (by omega)]; omega), if_neg (show ¬ zI k ≤ zI h by rw [zI_le (by omega) (by omega) (by omega) (by omega)]; omega)]
        · rw [if_neg c3]
      · rw [if_neg c2]
    · rw [if_neg c1]
