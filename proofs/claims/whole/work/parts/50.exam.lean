def Am (q : Cfg) (mv : Nat → Nat) (n D : Nat) (s : gS) : Prop := ∀ i, 1 ≤ i → i ≤ n → ∀ k, k ≤ 5 → s.2 3 (6 * i + k) = zI (fdI q mv n D i ((k : Nat) : Int))
def A5 (q : Cfg) (mv : Nat → Nat) (n D x : Nat) (s : gS) : Prop := ∀ i, 1 ≤ i → i < x → i ≤ n → ∀ k, k < 5 → s.2 3 (6 * i + k) = zI (fdI q mv n D i ((k : Nat) : Int))
def Cj (q : Cfg) (mv : Nat → Nat) (n D : Nat) (s : gS) : Prop := Cg q mv n D s ∧ Vc q mv n s ∧ ∃ e, e ≤ 16 ∧ s.1 10 = zI ((e : Nat) : Int) ∧ A5 q mv n D (e + 1) s
theorem fdI_5 (q : Cfg) (mv : Nat → Nat) (n D i : Nat) : fdI q mv n D i ((5 : Nat) : Int) = bI (tuF q mv n D i) := by
  unfold fdI
  rw [if_neg (by omega), if_neg (by omega), if_neg (by omega), if_neg (by omega), if_neg (by omega)]
theorem c_exam2 {q : Cfg} {mv : Nat → Nat} {n D t : Nat} (ht : t ≤ n) (hu : ∀ i, 1 ≤ i → i ≤ n → (tuF q mv n D i = true ↔ i = t)) : ∀ (m x φ : Nat) (s : gS), x + m = n + 1 → 1 ≤ x → m < φ → Cg q mv n D s → A5 q mv n D (n + 1) s → (∀ i, 1 ≤ i → i < x → s.2 3 (6 * i + 5) = zI (bI (tuF q mv n D i))) → ∃ u, f_X2_examine_118 φ s (zI t) (zI x) = some u ∧ Am q mv n D u ∧ Kp [] [3] s u
  | 0, x, φ, s, hx, hx1, hf, h, hA, hB => by
    obtain ⟨φ, rfl⟩ : ∃ m, φ = m + 1 := ⟨φ - 1, by omega⟩
    have hn := h.n16
    rw [f_X2_examine_118, h.2.1, if_pos (by rw [zI_lt (by omega) (by omega) (by omega) (by omega)]; omega)]
    refine ⟨s, rfl, fun i i1 i2 k hk => ?_, Kp.rf⟩
    by_cases e : k = 5
    · subst e
      rw [fdI_5]
      exact hB i i1 (by omega)
    · exact hA i i1 (by omega) i2 k (by omega)
  | m + 1, x, φ, s, hx, hx1, hf, h, hA, hB => by
    obtain ⟨φ, rfl⟩ : ∃ m, φ = m + 1 := ⟨φ - 1, by omega⟩
    have hn := h.n16
    have hst : f_X2_examine_118 (φ + 1) s (zI t) (zI x) = f_X2_examine_118 φ (sa s 3 (6 * x + 5) (zI (bI (tuF q mv n D x)))) (zI t) (zI ((x + 1 : Nat) : Int)) := by
      rw [f_X2_examine_118, h.2.1, if_neg (by rw [zI_lt (by omega) (by omega) (by omega) (by omega)]; omega)]
      unfold f_X2_examine_142
      have e5 : (5 : Int32) = zI ((5 : Nat) : Int) := zI_5
      have hk := hu x hx1 (by omega)
      by_cases c1 : x = t
      · rw [if_pos (by rw [c1]), e5, c_keep s _ (by omega) (by omega), ob9, zsuc, hk.mpr c1]
        rfl
      · have hf : tuF q mv n D x = false := by
          cases g : tuF q mv n D x with
          | false => rfl
          | true => exact absurd (hk.mp g) c1
        rw [if_neg (by rw [zI_eq (by omega) (by omega) (by omega) (by omega)]; omega), e5, c_keep s _ (by omega) (by omega), ob9, zsuc, hf]
        rfl
    rw [hst]
    have hk1 : Kp [] [3] s (sa s 3 (6 * x + 5) (zI (bI (tuF q mv n D x)))) := Kp.rf.sa (by decide)
    obtain ⟨u, u1, u2, u3⟩ := c_exam2 ht hu m (x + 1) φ _ (by omega) (by omega) (by omega) (h.kp hk1 (by decide)) (fun i i1 i2 i3 k hk => by
      rw [sa_at, if_neg (fun g => by omega)]
      exact hA i i1 i2 i3 k hk) (fun i i1 i2 => by
      rw [sa_at]
      by_cases e : i = x
      · subst e
        rw [if_pos ⟨rfl, rfl⟩]
      · rw [if_neg (fun g => by omega)]
        exact hB i i1 (by omega))
    exact ⟨u, u1, u2, hk1.tr u3⟩
set_option maxHeartbeats 1000000 in
theorem c_exam1 {q : Cfg} {mv : Nat → Nat} {n D : Nat} : ∀ (m x φ : Nat) (s : gS), n + 1 ≤ x + m → x ≤ 17 → 1 ≤ x → m < φ → Cg q mv n D s → Vc q mv n s → A5 q mv n D x s → ∃ u, f_X2_examine_7 φ s (zI x) = some u ∧ Vc q mv n u ∧ u.1 10 = zI n ∧ Am q mv n D u ∧ Kp [10] [2, 3] s u
  | m, x, φ, s, hx, hx17, hx1, hf, h, hV, hA => by
    obtain ⟨φ, rfl⟩ : ∃ m, φ = m + 1 := ⟨φ - 1, by omega⟩
    have hn := h.n16
    have hD := h.2.2.2.2.2.2
    rw [f_X2_examine_7, h.2.1]
    by_cases c1 : n < x
    · rw [if_pos (by rw [zI_lt (by omega) (by omega) (by omega) (by omega)]; omega)]
      have hk1 : Kp [10] [2, 3] s (ss s 10 (zI n)) := Kp.rf.ss (by decide)
      obtain ⟨t, u, u1, u2, u3, u4, u5⟩ := c_turn (h.kp hk1 (by decide)) (hV.kp (t := ss s 10 (zI n)) (ks := [10]) (as := []) (Kp.rf.ss (by decide)) (by decide))
      rw [u1, ob9]
      obtain ⟨m9, hm9⟩ := gf_big
      have hk2 : Kp [10] [2, 3] s u := hk1.tr (u5.mo (by decide) (by decide))
      obtain ⟨v, v1, v2, v3⟩ := c_exam2 u3 u2 n 1 gφ u (by omega) (by omega) (by omega) (h.kp hk2 (by decide)) (fun i i1 i2 i3 k hk => by
        rw [u5.2 3 (by decide)]
        exact hA i i1 (by omega) i3 k hk) (fun i i1 i2 => by omega)
      show ∃ u_1, f_X2_examine_118 gφ u (zI t) 1 = some u_1 ∧ _
      rw [show (1 : Int32) = zI ((1 : Nat) : Int) from zI_1, v1]
      refine ⟨v, rfl, u4.kp v3 (by decide), ?_, v2, hk2.tr (v3.mo (by decide) (by decide))⟩
      rw [v3.1 10 (by decide), u5.1 10 (by decide)]
      rfl
    · have hi : 1 ≤ x ∧ x ≤ n := ⟨hx1, by omega⟩
      rw [if_neg (by rw [zI_lt (by omega) (by omega) (by omega) (by omega)]; omega)]
      have z0 : (0 : Int32) = zI ((0 : Nat) : Int) := zI_0
      have z1 : (1 : Int32) = zI ((1 : Nat) : Int) := zI_1
      have z1r : zI ((1 : Nat) : Int) = (1 : Int32) := zI_1.symm
      have z2 : (2 : Int32) = zI ((2 : Nat) : Int) := zI_2
      have z3 : (3 : Int32) = zI ((3 : Nat) : Int) := zI_3
      have z4 : (4 : Int32) = zI ((4 : Nat) : Int) := zI_4
      rw [c_win h hi, ob9, z0, c_keep s _ (by omega) (by omega), ob9]
      have kA : Kp [10] [2, 3] s (sa s 3 (6 * x + 0) (zI (bI (wnF q mv x)))) := Kp.rf.sa (by decide)
      have vA : Vc q mv n (sa s 3 (6 * x + 0) (zI (bI (wnF q mv x)))) := hV.kp (ks := []) (as := [3]) (Kp.rf.sa (by decide)) (by decide)
      have rA : ∀ j, (sa s 3 (6 * x + 0) (zI (bI (wnF q mv x)))).2 3 j = if j = 6 * x + 0 then zI (bI (wnF q mv x)) else s.2 3 j := fun j => by rw [sa_at]; simp
      generalize sa s 3 (6 * x + 0) (zI (bI (wnF q mv x))) = sA at kA vA rA
      rw [c_threat (h.kp kA (by decide)) hi, ob9, z1, c_keep sA _ (by omega) (by omega), ob9, z1r]
      have kB : Kp [10] [2, 3] s (sa sA 3 (6 * x + 1) (zI (thF q mv x))) := kA.sa (by decide)
      have vB : Vc q mv n (sa sA 3 (6 * x + 1) (zI (thF q mv x))) := vA.kp (ks := []) (as := [3]) (Kp.rf.sa (by decide)) (by decide)
      have rB : ∀ j, (sa sA 3 (6 * x + 1) (zI (thF q mv x))).2 3 j = if j = 6 * x + 1 then zI (thF q mv x) else sA.2 3 j := fun j => by rw [sa_at]; simp
      generalize sa sA 3 (6 * x + 1) (zI (thF q mv x)) = sB at kB vB rB
      obtain ⟨sC, f1, f2, f3⟩ := c_forced (h.kp kB (by decide)) vB hi
      have kC : Kp [10] [2, 3] s sC := kB.tr (f3.mo (by decide) (by decide))
      rw [f1, ob9]
      show ∃ u, ((f_X2_keep sC (zI x) 2 (zI (bI (foF q mv D x)))).bind _) = some u ∧ _
      rw [z2, c_keep sC _ (by omega) (by omega), ob9]
      have kD : Kp [10] [2, 3] s (sa sC 3 (6 * x + 2) (zI (bI (foF q mv D x)))) := kC.sa (by decide)
      have vD : Vc q mv n (sa sC 3 (6 * x + 2) (zI (bI (foF q mv D x)))) := f2.kp (ks := []) (as := [3]) (Kp.rf.sa (by decide)) (by decide)
      have rD : ∀ j, (sa sC 3 (6 * x + 2) (zI (bI (foF q mv D x)))).2 3 j = if j = 6 * x + 2 then zI (bI (foF q mv D x)) else sB.2 3 j := fun j => by rw [sa_at, f3.2 3 (by decide)]; simp
      generalize sa sC 3 (6 * x + 2) (zI (bI (foF q mv D x))) = sD at kD vD rD
      have gD := h.kp kD (by decide)
      rw [zpr hx1, gD.2.2.2.2.2.1]
      obtain ⟨sE, e1, e2, e3⟩ := c_value gD vD (show x - 1 ≤ n by omega) (show D ≤ 5 by omega)
      have gE := gD.kp e3 (by decide)
      rw [e1, ob9]
      show ∃ u, ((f_X2_valueBehind sE (zI x) (sE.1 9 - 1)).bind _) = some u ∧ _
      rw [gE.2.2.2.2.2.1, zpr hD.1]
      obtain ⟨sF, d1, d2, d3⟩ := c_value gE e2 hi.2 (show D - 1 ≤ 5 by omega)
      rw [d1, ob9]
      have eS : zI (vlF q mv (x - 1) D) + zI (vlF q mv x (D - 1)) = zI (slF q mv D x) := by
        rw [zI_add]
        unfold slF
        rw [bh_vl h.2.2.1 hi]
        exact zI_c (by omega)
      show ∃ u, ((f_X2_keep sF (zI x) 3 (zI (vlF q mv (x - 1) D) + zI (vlF q mv x (D - 1)))).bind _) = some u ∧ _
      rw [eS, z3, c_keep sF _ (by omega) (by omega), ob9]
      have kF : Kp [10] [2, 3] s sF := (kD.tr (e3.mo (by decide) (by decide))).tr (d3.mo (by decide) (by decide))
      have kG : Kp [10] [2, 3] s (sa sF 3 (6 * x + 3) (zI (slF q mv D x))) := kF.sa (by decide)
      have vG : Vc q mv n (sa sF 3 (6 * x + 3) (zI (slF q mv D x))) := d2.kp (ks := []) (as := [3]) (Kp.rf.sa (by decide)) (by decide)
      have rG : ∀ j, (sa sF 3 (6 * x + 3) (zI (slF q mv D x))).2 3 j = if j = 6 * x + 3 then zI (slF q mv D x) else sD.2 3 j := fun j => by rw [sa_at, d3.2 3 (by decide), e3.2 3 (by decide)]; simp
      generalize sa sF 3 (6 * x + 3) (zI (slF q mv D x)) = sG at kG vG rG
      obtain ⟨mm, p1, p2⟩ := c_missed (h.kp kG (by decide)) hi
      rw [p1, ob9, p2.cnt h.1.1, ob9, mk_ms, z4, c_keep sG _ (by omega) (by omega), ob9]
      have kH : Kp [10] [2, 3] s (sa sG 3 (6 * x + 4) (zI (msF q mv x))) := kG.sa (by decide)
      have vH : Vc q mv n (sa sG 3 (6 * x + 4) (zI (msF q mv x))) := vG.kp (ks := []) (as := [3]) (Kp.rf.sa (by decide)) (by decide)
      have rH : ∀ j, (sa sG 3 (6 * x + 4) (zI (msF q mv x))).2 3 j = if j = 6 * x + 4 then zI (msF q mv x) else sG.2 3 j := fun j => by rw [sa_at]; simp
      generalize sa sG 3 (6 * x + 4) (zI (msF q mv x)) = sH at kH vH rH
      rw [zsuc]
      match m, hx with
      | 0, hx => omega
      | m + 1, hx =>
        obtain ⟨u, u1, u2, u3, u4, u5⟩ := c_exam1 m (x + 1) φ sH (by omega) (by omega) (by omega) (by omega) (h.kp kH (by decide)) vH (fun i i1 i2 i3 k hk => by
          rw [rH, rG, rD, rB, rA]
          by_cases e : i = x
          · subst e
            match k, hk with
            | 0, _ => rw [if_neg (by omega), if_neg (by omega), if_neg (by omega), if_neg (by omega), if_pos rfl]; rfl
            | 1, _ => rw [if_neg (by omega), if_neg (by omega), if_neg (by omega), if_pos rfl]; rfl
            | 2, _ => rw [if_neg (by omega), if_neg (by omega), if_pos rfl]; rfl
            | 3, _ => rw [if_neg (by omega), if_pos rfl]; rfl
            | 4, _ => rw [if_pos rfl]; rfl
          · rw [if_neg (by omega), if_neg (by omega), if_neg (by omega), if_neg (by omega), if_neg (by omega)]
            exact hA i i1 (by omega) i3 k hk)
        exact ⟨u, u1, u2, u3, u4, kH.tr u5⟩
theorem c_exam {q : Cfg} {mv : Nat → Nat} {n D : Nat} {s : gS} (h : Cj q mv n D s) : ∃ u, f_X2_examine s = some u ∧ Cj q mv n D u ∧ Am q mv n D u ∧ Kp [10] [2, 3] s u := by
  obtain ⟨h1, h2, e, h3, h4, h5⟩ := h
  have hn := h1.n16
  obtain ⟨m, hm⟩ := gf_big
  obtain ⟨u, u1, u2, u3, u4, u5⟩ := c_exam1 n (e + 1) gφ s (by omega) (by omega) (by omega) (by omega) h1 h2 h5
  unfold f_X2_examine
  rw [h4, zsuc, u1]
  exact ⟨u, rfl, ⟨h1.kp u5 (by decide), u2, n, by omega, u3, fun i i1 i2 i3 k hk => u4 i i1 i3 k (by omega)⟩, u4, u5⟩
theorem c_amount {i k : Nat} (s : gS) (hi : i ≤ 16) (hk : k ≤ 5) : f_X2_amountOf s (zI i) (zI k) = some (s.2 3 (6 * i + k)) := by
  have e1 : zI (i : Int) * 6 + zI (k : Int) = zI ((6 * i + k : Nat) : Int) := by rw [zI_6, zI_mul, zI_add]; exact zI_c (by omega)
  have e2 : (102 : Int32) = zI 102 := by decide
  unfold f_X2_amountOf
  rw [e1, if_neg (by rw [zI_0, zI_lt (by omega) (by omega) (by omega) (by omega)]; omega), if_neg (by rw [e2, zI_le (by omega) (by omega) (by omega) (by omega)]; omega), if_pos (zin (by omega) (by omega)), zcl (by omega)]
/-- what a move is worth, by the weights -/
def wsF (q : Cfg) (mv : Nat → Nat) (n D : Nat) (wt : Nat → Nat) (i : Nat) : Nat → Int
  | 0 => 0
  | k + 1 => wsF q mv n D wt i k + fdI q mv n D i ((k : Nat) : Int) * (wt k : Int)
theorem c_worth1 {q : Cfg} {mv : Nat → Nat} {n D i : Nat} {wt : Nat → Nat} {s : gS} (hi : 1 ≤ i ∧ i ≤ n) (hn : n ≤ 16) (hA : Am q mv n D s) (hw : ∀ k, k < 6 → s.2 1 k = zI (wt k)) : ∀ (m k φ : Nat), k + m = 6 → m < φ → f_X2_worthOf_4 φ s (zI i) (zI (wsF q mv n D wt i k)) (zI k) = some (zI (wsF q mv n D wt i 6))
  | 0, k, φ, hk, hf => by
    obtain ⟨φ, rfl⟩ : ∃ m, φ = m + 1 := ⟨φ - 1, by omega⟩
    have : k = 6 := by omega
    subst this
    rw [f_X2_worthOf_4, if_pos (by decide)]
  | m + 1, k, φ, hk, hf => by
    obtain ⟨φ, rfl⟩ : ∃ m, φ = m + 1 := ⟨φ - 1, by omega⟩
    rw [f_X2_worthOf_4, if_neg (by rw [zI_6, zI_le (by omega) (by omega) (by omega) (by omega)]; omega), c_amount s (by omega) (by omega), ob9, if_pos (zin (by omega) (by omega)), zcl (by omega), hA i hi.1 hi.2 k (by omega), hw k (by omega), zI_mul, zI_add, zsuc]
    exact c_worth1 hi hn hA hw m (k + 1) φ (by omega) (by omega)
theorem c_worth {q : Cfg} {mv : Nat → Nat} {n D i : Nat} {wt : Nat → Nat} {s : gS} (hi : 1 ≤ i ∧ i ≤ n) (hn : n ≤ 16) (hA : Am q mv n D s) (hw : ∀ k, k < 6 → s.2 1 k = zI (wt k)) : f_X2_worthOf s (zI i) = some (zI (wsF q mv n D wt i 6)) := by
  obtain ⟨m, hm⟩ := gf_big
  have := c_worth1 hi hn hA hw 6 0 gφ (by omega) (by omega)
  unfold f_X2_worthOf
  rw [z00, show wsF q mv n D wt i 0 = ((0 : Nat) : Int) from rfl, z00] at this
  exact this
