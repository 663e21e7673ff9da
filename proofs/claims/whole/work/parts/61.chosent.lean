def ChR (q : Cfg) (mv : Nat → Nat) (n D : Nat) (wt : Nat → Nat) (room : Nat) (r : Int32) : Prop := ∃ x y, DpK (fun j => ws6 q mv n D wt ((ofL (ws6 q mv n D wt) n).getD j 0)) (fun j => ln1 q mv n D ((ofL (ws6 q mv n D wt) n).getD j 0) + 1) (fun j => (ofL (ws6 q mv n D wt) n).getD j 0 - 1) 0 (ofL (ws6 q mv n D wt) n).length (room + 1) x y r
theorem getD_in {L : List Nat} {j : Nat} (h : j < L.length) : L.getD j 0 ∈ L := by
  have e : L.getD j 0 = L[j] := by simp [h]
  rw [e]
  exact List.getElem_mem h
theorem ch_ok {q : Cfg} {mv : Nat → Nat} {n D : Nat} {wt : Nat → Nat} (hq : okC q) (hm : okM q mv n) (hD : 1 ≤ D) (hwt : ∀ k, wt k ≤ 99) : OkK (fun j => ws6 q mv n D wt ((ofL (ws6 q mv n D wt) n).getD j 0)) (fun j => ln1 q mv n D ((ofL (ws6 q mv n D wt) n).getD j 0) + 1) (fun j => (ofL (ws6 q mv n D wt) n).getD j 0 - 1) (ofL (ws6 q mv n D wt) n).length := by
  refine ⟨ofL_len _ _, fun j hj => ?_⟩
  obtain ⟨x1, x2, x3⟩ := ofL_in n _ (getD_in hj)
  have hn := okM_n hm
  have hN := okC_n hq
  have hr := wsF_rng (wt := wt) hq hm ⟨x1, x2⟩ hD hwt 6
  have hl := wdT_len (v := 1) hq hm ⟨x1, x2⟩ hD
  show (1 ≤ wsF q mv n D wt ((ofL (ws6 q mv n D wt) n).getD j 0) 6 ∧ wsF q mv n D wt ((ofL (ws6 q mv n D wt) n).getD j 0) 6 ≤ 9504) ∧ (2 ≤ ((wdT q mv n D ((ofL (ws6 q mv n D wt) n).getD j 0) 1).length : Int) + 1 ∧ ((wdT q mv n D ((ofL (ws6 q mv n D wt) n).getD j 0) 1).length : Int) + 1 ≤ 17) ∧ (ofL (ws6 q mv n D wt) n).getD j 0 - 1 < 16
  generalize (ofL (ws6 q mv n D wt) n).getD j 0 = x at *
  change wsF q mv n D wt x 6 ≠ 0 at x3
  generalize wsF q mv n D wt x 6 = y at *
  generalize (wdT q mv n D x 1).length = z at *
  omega
theorem ChR.uni {q : Cfg} {mv : Nat → Nat} {n D : Nat} {wt : Nat → Nat} {room : Nat} {r r2 : Int32} (hq : okC q) (hm : okM q mv n) (hD : 1 ≤ D) (hwt : ∀ k, wt k ≤ 99) (h : ChR q mv n D wt room r) (g : ChR q mv n D wt room r2) : r = r2 := by
  obtain ⟨_, _, h⟩ := h
  obtain ⟨_, _, g⟩ := g
  exact DpK.uni (ch_ok hq hm hD hwt) h g
theorem c_chosenT {q : Cfg} {mv : Nat → Nat} {n D : Nat} {wt : Nat → Nat} {s : gS} (hwt : ∀ k, wt k ≤ 99) (h : Cj q mv n D s) (hw : ∀ k, k < 6 → s.2 1 k = zI (wt k)) {a : Int} (ha : -2147483648 ≤ a ∧ a < 2147483648) : ∃ r u, f_X8_chosen s (zI a) = some (r, u) ∧ Cj q mv n D u ∧ (if 0 ≤ a ∧ a ≤ 200 then ChR q mv n D wt a.toNat r else r = zI (-1)) := by
  unfold f_X8_chosen
  by_cases c1 : a < 0
  · rw [if_pos (by rw [zI_0, zI_lt (by omega) (by omega) (by omega) (by omega)]; exact c1)]
    exact ⟨_, s, rfl, h, by rw [if_neg (by omega), zI_m1]⟩
  · rw [if_neg (by rw [zI_0, zI_lt (by omega) (by omega) (by omega) (by omega)]; exact c1)]
    by_cases c2 : a ≤ 200
    · rw [if_pos (by rw [zI_200, zI_le (by omega) (by omega) (by omega) (by omega)]; exact c2)]
      have hn := h.1.n16
      obtain ⟨g, hg⟩ := gf_big
      obtain ⟨t, t1, t2, t3, t4⟩ := c_exam h
      rw [t1, ob9]
      show ∃ r u, f_X8_chosen_29 gφ (ss t 11 0) (zI a) 1 = some (r, u) ∧ _
      have k0 : Kp [11] [] t (ss t 11 0) := Kp.rf.ss (by decide)
      have w1 : ∀ k, k < 6 → (ss t 11 0).2 1 k = zI (wt k) := fun k hk => by
        show t.2 1 k = _
        rw [t4.2 1 (by decide)]
        exact hw k hk
      obtain ⟨v, v1, v2, v3⟩ := c_offers1 (q := q) (mv := mv) (n := n) (D := D) (r := zI a) hwt n 0 gφ (ss t 11 0) (by omega) (by omega) (t2.1.kp k0 (by decide)) t3 w1 ⟨rfl, fun j hj => by simp [ofL] at hj⟩
      have e1 : f_X8_chosen_29 gφ (ss t 11 0) (zI a) 1 = f_X8_chosen_29 gφ (ss t 11 0) (zI a) (zI ((0 + 1 : Nat) : Int)) := rfl
      rw [e1, v1]
      have ea : (a : Int) = ((a.toNat : Nat) : Int) := by omega
      obtain ⟨r, u, u1, u2⟩ := c_choose (s := v) (room := a.toNat) (ch_ok h.1.1.1 h.1.2.2.1 h.1.2.2.2.2.2.2.1 hwt) (by omega) v2.1 (fun j hj => by
        obtain ⟨o1, o2, o3⟩ := v2.2 j hj
        obtain ⟨x1, -, -⟩ := ofL_in n _ (getD_in hj)
        refine ⟨o3, o2, ?_⟩
        rw [o1, Nat.sub_add_cancel x1])
      rw [← ea] at u1
      rw [u1, ob9]
      have k9 : Kp [] [8, 9, 10] v u := fr_X1_choose v (zI a) (r, u) u1
      refine ⟨r, u, rfl, ?_, by rw [if_pos (by omega)]; exact u2⟩
      have kk : Kp [11, 17] [4, 5, 6, 7, 8, 9, 10] t u := ((k0.mo (by decide) (by decide)).tr (v3.mo (by decide) (by decide))).tr (k9.mo (by decide) (by decide))
      exact t2.kp kk (by decide)
    · rw [if_neg (by rw [zI_200, zI_le (by omega) (by omega) (by omega) (by omega)]; exact c2)]
      exact ⟨_, s, rfl, h, by rw [if_neg (by omega), zI_m1]⟩
theorem m_chosen {q : Cfg} {mv : Nat → Nat} {n D : Nat} {wt : Nat → Nat} {s : gS} (hwt : ∀ k, wt k ≤ 99) (h : MG q mv n D s) (hw : ∀ k, k < 6 → s.2 21 k = zI (wt k)) {a : Int} (ha : -2147483648 ≤ a ∧ a < 2147483648) : ∃ r u, f_X9_chosen s (zI a) = some (r, u) ∧ MG q mv n D u ∧ (if 0 ≤ a ∧ a ≤ 200 then ChR q mv n D wt a.toNat r else r = zI (-1)) := by
  unfold f_X9_chosen
  rw [zI_0, zI_200, m_in ha (by omega) (by omega), ob9]
  by_cases c1 : 0 ≤ a ∧ a ≤ 200
  · rw [if_pos c1, if_neg (by decide)]
    obtain ⟨t, t1, t2, t3, t4⟩ := m_weighs hwt h hw
    rw [t1, ob9]
    have ea : (a : Int) = ((a.toNat : Nat) : Int) := by omega
    obtain ⟨r, r1, r2⟩ := m_choose (s := t) (room := a.toNat) (ch_ok h.1.1 h.1.2.2.2.1 h.1.2.2.2.2.2.2.1 hwt) (by omega) t3.1 (fun j hj => by
      obtain ⟨o1, o2, o3⟩ := t3.2 j hj
      refine ⟨o2, ?_⟩
      rw [o3]
      exact zI_c (by omega)) (fun j hj => by
      obtain ⟨o1, o2, o3⟩ := t3.2 j hj
      obtain ⟨x1, -, -⟩ := ofL_in n _ (getD_in hj)
      rw [o1, Nat.sub_add_cancel x1])
    rw [← ea] at r1
    exact ⟨r, t, r1, t2, by rw [if_pos c1]; exact r2⟩
  · rw [if_neg c1, if_pos zI_0]
    exact ⟨_, s, rfl, h, by rw [if_neg c1, zI_m1]⟩
