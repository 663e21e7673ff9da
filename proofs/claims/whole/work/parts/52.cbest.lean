/-! best: the first of the best -/
theorem bst_spec {f : Nat → Int} (hf : ∀ c, f c = -3 ∨ (-1 ≤ f c ∧ f c ≤ 1)) : ∀ m, ((∀ c, c < m → f c = -3) ∧ bstF f m = (-2, -1)) ∨ ∃ c0, c0 < m ∧ bstF f m = (f c0, (c0 : Int)) ∧ -1 ≤ f c0 ∧ (∀ c, c < m → f c ≤ f c0) ∧ ∀ c, c < c0 → f c < f c0
  | 0 => Or.inl ⟨fun c hc => by omega, rfl⟩
  | m + 1 => by
    have h1 := hf m
    rcases bst_spec hf m with ⟨a1, a2⟩ | ⟨c0, b1, b2, b3, b4, b5⟩
    · by_cases c : f m = -3
      · refine Or.inl ⟨fun c hc => ?_, ?_⟩
        · by_cases e : c = m
          · rw [e]; assumption
          · exact a1 c (by omega)
        · rw [bstF, if_pos (Or.inr c), a2]
      · refine Or.inr ⟨m, by omega, ?_, by omega, fun x hx => ?_, fun x hx => ?_⟩
        · rw [bstF, a2, if_neg (fun g => by
            rcases g with g | g
            · have : f m ≤ -2 := g
              omega
            · omega)]
        · by_cases e : x = m
          · rw [e]; exact Int.le_refl _
          · rw [a1 x (by omega)]; omega
        · rw [a1 x hx]; omega
    · by_cases c : f m ≤ f c0
      · refine Or.inr ⟨c0, by omega, ?_, b3, fun x hx => ?_, b5⟩
        · rw [bstF, b2, if_pos (Or.inl c)]
        · by_cases e : x = m
          · rw [e]; exact c
          · exact b4 x (by omega)
      · refine Or.inr ⟨m, by omega, ?_, by omega, fun x hx => ?_, fun x hx => ?_⟩
        · rw [bstF, b2, if_neg (fun g => by
            rcases g with g | g
            · exact c g
            · omega)]
        · by_cases e : x = m
          · rw [e]; exact Int.le_refl _
          · have := b4 x (by omega); omega
        · have := b4 x (by omega); omega
theorem bstF_cong {f g : Nat → Int} (h : ∀ c, f c = g c) (m : Nat) : bstF f m = bstF g m := by
  rw [show f = g from funext h]
set_option maxHeartbeats 1000000 in
theorem c_best1 {q : Cfg} {mv : Nat → Nat} {n D i d : Nat} {s : gS} (h : Cj q mv n D s) (hi : i ≤ n) (hd : 1 ≤ d ∧ d ≤ 5) (hw : winF q mv i = 3) : ∃ u, ((f_X3_stonesOf s (zI (i : Int) &&& 1) (zI i)).bind fun r9 =>
          (f_X3_stonesOf s (1 - (zI (i : Int) &&& 1)) (zI i)).bind fun r11 =>
          (f_X0_openCells s (r9 ||| r11)).bind fun r13 =>
          (f_X2_valueBehind s (zI i) (zI d)).bind fun r15 =>
          if 0 ≤ r15.1 then
            f_X8_best_92 r15.2 (zI d) r9 r11 r13 r15.1 0
          else
            f_X8_best_92 r15.2 (zI d) r9 r11 r13 r15.1 1) = some (zI (bstF (fun c => bhF q mv i c (d - 1)) (cN q)).2, u) ∧ Cj q mv n D u ∧ Kp [] [2] s u := by
  have hn := h.1.n16
  have hok := h.1.2.2.1.le hi
  have hlt := win_lt h.1.1.1 hok hw
  obtain ⟨a, b, a1, b1, hP⟩ := h.1.ps hi
  obtain ⟨o, o1, o2⟩ := c_open h.1.1 (hP.taken h.1.1.1)
  obtain ⟨u, u1, u2, u3⟩ := c_value h.1 h.2.1 hi hd.2
  have hu : Cj q mv n D u := h.v2 u2 u3
  have hr := vlF_rng (i := i) d h.1.1.1 hok
  rw [zand1 (by omega), a1, ob9, zneg1 (by omega), b1, ob9, o1, ob9, u1, ob9]
  have hbh : ∀ c, bhF q mv i c (d - 1) = if isMv q (posF mv i) c = true then mvF q (d - 1) (posF mv i) i c else -3 := by
    intro c
    unfold bhF
    by_cases g : isMv q (posF mv i) c = true
    · rw [if_pos ⟨hw, g⟩, if_pos g]
    · rw [if_neg (fun k => g k.2), if_neg g]
  have hvl : vlF q mv i d = bestF (mvF q (d - 1) (posF mv i) i) (isMv q (posF mv i)) (cN q) := by
    unfold vlF
    rw [if_pos hw, ← valF_s, Nat.sub_add_cancel hd.1]
  have hrg : ∀ c, isMv q (posF mv i) c = true → -1 ≤ mvF q (d - 1) (posF mv i) i c ∧ mvF q (d - 1) (posF mv i) i c ≤ 1 := fun c hc => mvF_rng (okM_okP hok) hlt hc
  obtain ⟨x, x1, x2⟩ := mv_some (okM_okP hok) hlt
  rcases bst_spec (f := fun c => bhF q mv i c (d - 1)) (fun c => by
    show bhF q mv i c (d - 1) = -3 ∨ _
    rw [hbh c]
    by_cases g : isMv q (posF mv i) c = true
    · rw [if_pos g]; exact Or.inr (hrg c g)
    · rw [if_neg g]; exact Or.inl rfl) (cN q) with ⟨g1, -⟩ | ⟨c0, g1, g2, g3, g4, g5⟩
  · exfalso
    have := g1 x x1
    simp only [hbh, if_pos x2] at this
    have := hrg x x2
    omega
  · have hm0 : isMv q (posF mv i) c0 = true := by
      by_cases k : isMv q (posF mv i) c0 = true
      · exact k
      · simp only [hbh, if_neg k] at g3
        omega
    have hb0 : bhF q mv i c0 (d - 1) = mvF q (d - 1) (posF mv i) i c0 := by rw [hbh, if_pos hm0]
    have hmax : vlF q mv i d = mvF q (d - 1) (posF mv i) i c0 := by
      rw [hvl]
      refine Int.le_antisymm (bestF_le (by have := hrg c0 hm0; omega) (fun c hc hmc => ?_)) (bestF_ge hm0 g1)
      have := g4 c hc
      simp only [hb0, hbh, if_pos hmc] at this
      exact this
    have hfirst : ∀ j, j < c0 → (isMv q (posF mv i) j && decide (vlF q mv i d ≤ mvF q (d - 1) (posF mv i) i j)) = false := by
      intro j hj
      have := g5 j hj
      simp only [hb0, hbh] at this
      cases e : isMv q (posF mv i) j with
      | false => rfl
      | true =>
        rw [if_pos e] at this
        rw [Bool.true_and, decide_eq_false_iff_not, hmax]
        omega
    rw [g2]
    show ∃ u_1, (if 0 ≤ zI (vlF q mv i d) then f_X8_best_92 u (zI d) a b o (zI (vlF q mv i d)) 0 else f_X8_best_92 u (zI d) a b o (zI (vlF q mv i d)) 1) = some (zI (c0 : Int), u_1) ∧ _
    unfold f_X8_best_92 f_X8_best_129
    refine ⟨u, ?_, hu, u3⟩
    by_cases k : 0 ≤ vlF q mv i d
    · rw [if_pos (by rw [zI_0, zI_le (by omega) (by omega) (by omega) (by omega)]; omega), if_pos rfl, zpr hd.1]
      obtain ⟨g, hg⟩ : ∃ g : Nat, vlF q mv i d = (g : Int) := ⟨(vlF q mv i d).toNat, by omega⟩
      rw [hg] at hfirst hmax hr ⊢
      rw [c_low hu.1.1 hP (g := g) (by omega) (by omega) o2 (fun c hc hf => hf), ob9, lowB_at g1 (by rw [hm0, ← hmax]; simp) hfirst, c_cell hu.1.1 g1, ob9]
    · rw [if_neg (by rw [zI_0, zI_le (by omega) (by omega) (by omega) (by omega)]; omega), if_neg (by decide)]
      have hlow : fstF (isMv q (posF mv i)) 0 (cN q) = c0 := fstF_eq g1 hm0 (fun j hj => by
        have := hfirst j hj
        cases e : isMv q (posF mv i) j with
        | false => rfl
        | true =>
          rw [e, Bool.true_and, decide_eq_false_iff_not] at this
          have := hrg j e
          omega)
      rw [(o2.low h.1.1.1 ⟨x, x1, x2⟩).2.2, hlow, c_cell hu.1.1 g1, ob9]
theorem c_bestT {q : Cfg} {mv : Nat → Nat} {n D : Nat} {s : gS} (h : Cj q mv n D s) {a b : Int} (ha : -2147483648 ≤ a ∧ a < 2147483648) (hb : -2147483648 ≤ b ∧ b < 2147483648) : ∃ u, f_X8_best s (zI a) (zI b) = some (zI (if (0 ≤ a ∧ a ≤ n) ∧ 1 ≤ b ∧ b ≤ 5 then (bstF (fun c => bhF q mv a.toNat c (b.toNat - 1)) (cN q)).2 else -1), u) ∧ Cj q mv n D u ∧ Kp [] [2] s u := by
  unfold f_X8_best
  rw [c_pos h.1 ha, ob9, if10]
  by_cases c1 : 0 ≤ a ∧ a ≤ n
  · rw [if_pos c1]
    by_cases c2 : 1 ≤ b
    · rw [if_neg (by rw [zI_1, zI_lt (by omega) (by omega) (by omega) (by omega)]; omega)]
      by_cases c3 : b ≤ 5
      · rw [if_neg (by rw [zI_5, zI_lt (by omega) (by omega) (by omega) (by omega)]; omega), if_pos ⟨c1, c2, c3⟩]
        have e1 : zI a = zI ((a.toNat : Nat) : Int) := zI_c (by omega)
        have e2 : zI b = zI ((b.toNat : Nat) : Int) := zI_c (by omega)
        rw [e1, e2, c_ended h.1 (by omega), ob9]
        by_cases c4 : winF q mv a.toNat = 3
        · rw [if_pos c4, if_pos rfl]
          exact c_best1 h (by omega) (by omega) c4
        · rw [if_neg c4, if_neg (by decide)]
          refine ⟨s, ?_, h, Kp.rf⟩
          have : ∀ m, bstF (fun c => bhF q mv a.toNat c (b.toNat - 1)) m = (-2, -1) := by
            intro m
            induction m with
            | zero => rfl
            | succ m ih =>
              rw [bstF, if_pos (Or.inr (by unfold bhF; rw [if_neg (fun g => c4 g.1)])), ih]
          rw [this, zI_m1]
      · rw [if_pos (by rw [zI_5, zI_lt (by omega) (by omega) (by omega) (by omega)]; omega), if_neg (fun g => c3 g.2.2)]
        exact ⟨s, by rw [zI_m1], h, Kp.rf⟩
    · rw [if_pos (by rw [zI_1, zI_lt (by omega) (by omega) (by omega) (by omega)]; omega), if_neg (fun g => c2 g.2.1)]
      exact ⟨s, by rw [zI_m1], h, Kp.rf⟩
  · rw [if_neg c1, if_neg (fun g => c1 g.1)]
    exact ⟨s, by rw [zI_m1], h, Kp.rf⟩
