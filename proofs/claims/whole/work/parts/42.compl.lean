/-! completing -/
def stp (j : Nat) : Nat := match j with
  | 0 => 1
  | 1 => 4
  | 2 => 5
  | _ => 6
theorem stp_ok (j : Nat) : gSteps j = zI (stp j : Nat) ∧ 1 ≤ stp j ∧ stp j ≤ 6 := by
  match j with
  | 0 => exact ⟨by decide, by decide, by decide⟩
  | 1 => exact ⟨by decide, by decide, by decide⟩
  | 2 => exact ⟨by decide, by decide, by decide⟩
  | n + 3 => exact ⟨show (6 : Int32) = zI ((6 : Nat) : Int) by decide, show 1 ≤ 6 by decide, show 6 ≤ 6 by decide⟩
theorem bool_3 : ∀ e1 e2 a1 a2 c1 c2 : Bool, ((a1 && a2) || ((!e1 && c1) && (!e1 && (!e2 && c2))) || (a1 && (!e1 && c1))) = ((a1 && a2) || ((!e1 && c1) && (!e2 && c2)) || (a1 && (!e1 && c1))) := by decide
theorem bool_4 : ∀ e1 e2 e3 a1 a2 a3 c1 c2 c3 : Bool, ((((a1 && a2) && (a2 && a3)) || (((!e1 && c1) && (!e1 && (!e2 && c2))) && (!e1 && ((!e2 && c2) && (!e2 && (!e3 && c3)))))) || (((a1 && a2) && (!e1 && c1)) || (a1 && ((!e1 && c1) && (!e1 && (!e2 && c2)))))) = (((a1 && a2 && a3) || ((!e1 && c1) && (!e2 && c2) && (!e3 && c3))) || ((a1 && a2 && (!e1 && c1)) || (a1 && ((!e1 && c1) && (!e2 && c2))))) := by decide
theorem sh1 {m : Int32} {t i : Nat} (ht : t < 32) (hi : i < 32) : bt (m <<< (zI (t : Int) &&& 31)) i = (!decide (i < t) && bt m (i - t)) := by
  rw [bt_shl _ ht, decide_eq_true hi]
  rfl
set_option maxHeartbeats 1000000 in
theorem c_compl1 {q : Cfg} {s : gS} {m x : Int32} {j : Nat} (h : CB q s) (hj : j < 4) (φ : Nat) : ∃ y, f_X0_completing_13 (φ + 1) s m x 4 (zI j) = f_X0_completing_13 φ s m y 4 (zI ((j + 1 : Nat) : Int)) ∧ ∀ i, i < 32 → bt y i = (bt x i || cmB (cK q) m (stp j) i) := by
  obtain ⟨hq, h0, h1, h2, -⟩ := h
  obtain ⟨q1, q2, q3, q4, q5, q6⟩ := hq
  obtain ⟨g1, g2, g3⟩ := stp_ok j
  have ht : stp j < 32 := by omega
  rw [f_X0_completing_13, if_neg (by rw [zI_4, zI_le (by omega) (by omega) (by omega) (by omega)]; omega), zin (show j < 4 by omega) (by omega), if_pos rfl, h2, zcl (by omega), g1]
  unfold f_X0_completing_136
  rw [zsuc j]
  generalize stp j = t at *
  rcases (show cK q = 2 ∨ cK q = 3 ∨ cK q = 4 by omega) with e | e | e
  · rw [e, if_pos (by decide)]
    refine ⟨_, rfl, fun i hi => ?_⟩
    rw [bt_or, bt_or, bt_ushr _ ht, sh1 ht hi]
    rfl
  · rw [e, if_neg (by decide), if_pos (by decide)]
    refine ⟨_, rfl, fun i hi => ?_⟩
    rw [bt_or, bt_or, bt_or, bt_and, bt_and, bt_and, bt_ushr _ ht, bt_ushr _ ht, bt_ushr _ ht, sh1 ht hi, sh1 (m := m <<< (zI (t : Int) &&& 31)) ht hi, sh1 (i := i - t) ht (by omega)]
    congr 1
    unfold cmB lnB
    rw [if_neg (by decide), if_pos rfl]
    exact bool_3 _ _ _ _ _ _
  · rw [e, if_neg (by decide), if_neg (by decide)]
    refine ⟨_, rfl, fun i hi => ?_⟩
    have h8 : i - t < 32 := by omega
    have h9 : i - t - t < 32 := by omega
    simp only [bt_or, bt_and, bt_ushr _ ht, sh1 ht hi, sh1 ht h8, sh1 ht h9]
    rw [Bool.or_assoc]
    congr 1
    unfold cmB lnB
    rw [if_neg (by decide), if_neg (by decide)]
    exact bool_4 _ _ _ _ _ _ _ _ _
theorem c_compl {q : Cfg} {s : gS} {p : Nat → Nat} {v : Nat} {m : Int32} (h : CB q s) (hm : Mk q (fun c => decide (p c = v)) m) : ∃ r, f_X0_completing s m = some r ∧ ∀ c, c < cN q → bt r (p5 q c) = rowAt q p v c := by
  obtain ⟨φ, hφ⟩ := gf_big
  obtain ⟨n, hn⟩ : ∃ n, gφ = n + 1 + 1 + 1 + 1 + 1 := ⟨gφ - 5, by omega⟩
  obtain ⟨y1, a1, b1⟩ := c_compl1 (m := m) (x := 0) (j := 0) h (by omega) (n + 1 + 1 + 1 + 1)
  obtain ⟨y2, a2, b2⟩ := c_compl1 (m := m) (x := y1) (j := 1) h (by omega) (n + 1 + 1 + 1)
  obtain ⟨y3, a3, b3⟩ := c_compl1 (m := m) (x := y2) (j := 2) h (by omega) (n + 1 + 1)
  obtain ⟨y4, a4, b4⟩ := c_compl1 (m := m) (x := y3) (j := 3) h (by omega) (n + 1)
  have a5 : f_X0_completing_13 (n + 1) s m y4 4 (zI ((3 + 1 : Nat) : Int)) = some y4 := by
    rw [f_X0_completing_13, if_pos (by decide)]
  refine ⟨y4, ?_, fun c hc => ?_⟩
  · unfold f_X0_completing
    rw [hn, show f_X0_completing_13 (n + 1 + 1 + 1 + 1 + 1) s m 0 4 0 = f_X0_completing_13 (n + 1 + 1 + 1 + 1 + 1) s m 0 4 (zI ((0 : Nat) : Int)) from congrArg _ zI_0, a1, a2, a3, a4, a5]
  · have hi : p5 q c < 32 := by have := (p5_ok h.1 hc).2.2.1; omega
    rw [b4 _ hi, b3 _ hi, b2 _ hi, b1 _ hi, bt_0]
    have c1 := cm_line (t := 1) (dx := 1) (dy := 0) h.1 hm hc (by omega) (by omega) (by omega) (by omega)
    have c2 := cm_line (t := 4) (dx := -1) (dy := 1) h.1 hm hc (by omega) (by omega) (by omega) (by omega)
    have c3 := cm_line (t := 5) (dx := 0) (dy := 1) h.1 hm hc (by omega) (by omega) (by omega) (by omega)
    have c4 := cm_line (t := 6) (dx := 1) (dy := 1) h.1 hm hc (by omega) (by omega) (by omega) (by omega)
    have e4 : lineAt q p v c (-1) 1 = lineAt q p v c 1 (-1) := lineAt_neg (dx := 1) (dy := -1)
    rw [e4] at c2
    show ((((false || cmB (cK q) m 1 (p5 q c)) || cmB (cK q) m 4 (p5 q c)) || cmB (cK q) m 5 (p5 q c)) || cmB (cK q) m 6 (p5 q c)) = _
    rw [c1, c2, c3, c4]
    unfold rowAt
    cases lineAt q p v c 1 0 <;> cases lineAt q p v c 0 1 <;> cases lineAt q p v c 1 1 <;> cases lineAt q p v c 1 (-1) <;> rfl
