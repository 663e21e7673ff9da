/-! THE MODEL, step by step -/
def MS (q : Cfg) (s : gS) : Prop := s.1 20 = zI (cW q) ∧ s.1 21 = zI (cH q) ∧ s.1 22 = zI (cK q) ∧ s.1 25 = zI (bI (cG q)) ∧ s.1 26 = zI (bI (cL q))
def StB (s : gS) (p : Nat → Nat) : Prop := (∀ j, p j ≤ 2) ∧ ∀ j, j < 16 → s.2 22 j = zI (p j)
theorem MS.kp {q : Cfg} {s t : gS} {ks as : List Nat} (h : MS q s) (hk : Kp ks as s t) (hd : 20 ∉ ks ∧ 21 ∉ ks ∧ 22 ∉ ks ∧ 25 ∉ ks ∧ 26 ∉ ks) : MS q t := by
  obtain ⟨h1, h2, h3, h4, h5⟩ := h
  obtain ⟨d1, d2, d3, d4, d5⟩ := hd
  exact ⟨(hk.1 _ d1).trans h1, (hk.1 _ d2).trans h2, (hk.1 _ d3).trans h3, (hk.1 _ d4).trans h4, (hk.1 _ d5).trans h5⟩
theorem zI_0 : (0 : Int32) = zI 0 := by decide
theorem zI_1 : (1 : Int32) = zI 1 := by decide
theorem zI_2 : (2 : Int32) = zI 2 := by decide
theorem zI_3 : (3 : Int32) = zI 3 := by decide
theorem zI_c {a b : Int} (h : a = b) : zI a = zI b := by rw [h]
theorem gf_succ : ∃ m : Nat, gφ = m + 1000000 := ⟨gφ - 1000000, by unfold gφ; omega⟩
theorem bI_le (b : Bool) : 0 ≤ bI b ∧ bI b ≤ 1 := by cases b <;> decide
theorem m_in {a b c : Int} (h1 : -2147483648 ≤ a ∧ a < 2147483648) (h2 : -2147483648 ≤ b ∧ b < 2147483648) (h3 : -2147483648 ≤ c ∧ c < 2147483648) : f_X9_in (zI a) (zI b) (zI c) = some (if b ≤ a ∧ a ≤ c then 1 else 0) := by
  unfold f_X9_in
  simp (disch := omega) only [zI_lt]
  by_cases e1 : a < b
  · rw [if_pos e1, if_neg (by omega)]
  · by_cases e2 : c < a
    · rw [if_neg e1, if_pos e2, if_neg (by omega)]
    · rw [if_neg e1, if_neg e2, if_pos (by omega)]
theorem if10 {A : Prop} [Decidable A] {α : Type} {x y : α} : (if (if A then (1 : Int32) else 0) = 0 then x else y) = if A then y else x := by
  by_cases h : A
  · rw [if_pos h, if_pos h, if_neg (by decide)]
  · rw [if_neg h, if_neg h, if_pos rfl]
set_option maxHeartbeats 1000000 in
theorem m_run1 {q : Cfg} {s : gS} {p : Nat → Nat} {v : Nat} {dx dy x y : Int} {n : Nat} (hq : okC q) (hs : MS q s) (hp : StB s p) (hv : v ≤ 2) (hx : -1 ≤ x ∧ x ≤ 4) (hy : -1 ≤ y ∧ y ≤ 4) (φ : Nat) : f_X9_stonesFrom_23 (φ + 1) s (zI dx) (zI dy) (zI v) (zI n) (zI x) (zI y) = if onB q p v x y = true then f_X9_stonesFrom_23 φ s (zI dx) (zI dy) (zI v) (zI (n + 1 : Nat)) (zI (x + dx)) (zI (y + dy)) else some (zI n) := by
  obtain ⟨q1, q2, q3, q4, -⟩ := id hq
  obtain ⟨s1, s2, -⟩ := id hs
  rw [f_X9_stonesFrom_23, s1, s2, zI_1, zI_sub, zI_sub, zI_0, m_in (by omega) (by omega) (by omega)]
  simp only [Option.bind_some]
  rw [← zI_0, if10]
  by_cases c1 : 0 ≤ x ∧ x ≤ (cW q : Int) - 1
  · rw [if_pos c1, zI_0, m_in (by omega) (by omega) (by omega)]
    simp only [Option.bind_some]
    rw [← zI_0, if10]
    by_cases c2 : 0 ≤ y ∧ y ≤ (cH q : Int) - 1
    · rw [if_pos c2, zI_mul, zI_add]
      have hmul : (cW q : Int) * y = ((cW q * y.toNat : Nat) : Int) := by
        rw [Int.natCast_mul, Int.toNat_of_nonneg c2.1]
      have hle : cW q * y.toNat ≤ 4 * 3 := Nat.mul_le_mul q2 (by omega)
      rw [hmul, zI_in (by omega) (by omega), if_pos (by simp only [decide_eq_true_eq]; omega), zI_cl (by omega) (by omega)]
      have hj : ((cW q * y.toNat : Nat) + x : Int).toNat = cW q * y.toNat + x.toNat := by omega
      have hpj := hp.1 (cW q * y.toNat + x.toNat)
      rw [hj, hp.2 _ (by omega)]
      have hon : onB q p v x y = decide ((p (cW q * y.toNat + x.toNat) : Int) = v) := by
        unfold onB
        congr 1
        apply propext
        constructor
        · intro h
          omega
        · intro h
          exact ⟨c1.1, by omega, c2.1, by omega, by omega⟩
      rw [hon]
      simp (disch := omega) only [decide_eq_true_eq, zI_eq]
      rw [zI_add, zI_add, zI_add]
      rfl
    · rw [if_neg c2, if_neg]
      intro h
      have := onB_in h
      omega
  · rw [if_neg c1, if_neg]
    intro h
    have := onB_in h
    omega
theorem m_run {q : Cfg} {s : gS} {p : Nat → Nat} {v : Nat} {dx dy : Int} (hq : okC q) (hs : MS q s) (hp : StB s p) (hv : v ≤ 2) (hdx : -1 ≤ dx ∧ dx ≤ 1) (hdy : -1 ≤ dy ∧ dy ≤ 1) : ∀ (f φ : Nat) (x y : Int) (n : Nat), f < φ → (-1 ≤ x ∧ x ≤ 4) → (-1 ≤ y ∧ y ≤ 4) → onB q p v (x + f * dx) (y + f * dy) = false → f_X9_stonesFrom_23 φ s (zI dx) (zI dy) (zI v) (zI n) (zI x) (zI y) = some (zI (n + runF q p v dx dy f x y : Nat))
  | 0, φ, x, y, n, hf, hx, hy, ho => by
    obtain ⟨m, rfl⟩ : ∃ m, φ = m + 1 := ⟨φ - 1, by omega⟩
    have e : onB q p v x y = false := by
      have e1 : x + ((0 : Nat) : Int) * dx = x := by omega
      have e2 : y + ((0 : Nat) : Int) * dy = y := by omega
      rw [e1, e2] at ho
      exact ho
    rw [m_run1 hq hs hp hv hx hy, if_neg (by rw [e]; decide)]
    rfl
  | f + 1, φ, x, y, n, hf, hx, hy, ho => by
    obtain ⟨m, rfl⟩ : ∃ m, φ = m + 1 := ⟨φ - 1, by omega⟩
    rw [m_run1 hq hs hp hv hx hy, runF]
    by_cases e : onB q p v x y = true
    · rw [if_pos e, if_pos e]
      have hin := onB_in e
      obtain ⟨q1, q2, q3, q4, -⟩ := id hq
      rw [m_run hq hs hp hv hdx hdy f m (x + dx) (y + dy) (n + 1) (by omega) (by omega) (by omega) (by
        have e1 : x + dx + (f : Int) * dx = x + ((f + 1 : Nat) : Int) * dx := by rw [Int.natCast_add, Int.add_mul]; omega
        have e2 : y + dy + (f : Int) * dy = y + ((f + 1 : Nat) : Int) * dy := by rw [Int.natCast_add, Int.add_mul]; omega
        rw [e1, e2]
        exact ho)]
      congr 2
      omega
    · rw [if_neg e, if_neg e]
      rfl
theorem runF_le {q : Cfg} {p : Nat → Nat} {v : Nat} {dx dy : Int} : ∀ (f : Nat) (x y : Int), runF q p v dx dy f x y ≤ f
  | 0, _, _ => Nat.le_refl 0
  | f + 1, x, y => by
    rw [runF]
    have h := runF_le (q := q) (p := p) (v := v) (dx := dx) (dy := dy) f (x + dx) (y + dy)
    by_cases e : onB q p v x y = true
    · rw [if_pos e]; omega
    · rw [if_neg e]; omega
theorem m_from {q : Cfg} {s : gS} {p : Nat → Nat} {v c : Nat} {dx dy : Int} (hq : okC q) (hs : MS q s) (hp : StB s p) (hv : v ≤ 2) (hc : c < cN q) (hdx : -1 ≤ dx ∧ dx ≤ 1) (hdy : -1 ≤ dy ∧ dy ≤ 1) (hd : dx ≠ 0 ∨ dy ≠ 0) : f_X9_stonesFrom s (zI c) (zI dx) (zI dy) (zI v) = some (zI (runF q p v dx dy 4 (cX q c + dx) (cY q c + dy) : Nat)) := by
  obtain ⟨x1, x2, -⟩ := cell_xy hq hc
  have hn := okC_n hq
  obtain ⟨q1, q2, q3, q4, -⟩ := id hq
  unfold f_X9_stonesFrom
  rw [hs.1, zI_nz (by omega) (by omega), if_pos (by simp only [decide_eq_true_eq]; omega), if_pos (by simp only [decide_eq_true_eq]; omega), zI_div (by omega) (by omega) (by omega) (by omega), zI_mod, zI_add, zI_add, zI_0]
  obtain ⟨m, hm⟩ := gf_succ
  have e1 : (c : Int) % (cW q : Int) = ((c % cW q : Nat) : Int) := by rw [Int.natCast_emod]
  have e2 : (c : Int) / (cW q : Int) = ((c / cW q : Nat) : Int) := by rw [Int.natCast_ediv]
  rw [e1, e2]
  have X0 : 0 ≤ cX q c ∧ cX q c < cW q := by
    unfold cX
    generalize c % cW q = a at x1
    omega
  have Y0 : 0 ≤ cY q c ∧ cY q c < cH q := by
    unfold cY
    generalize c / cW q = a at x2
    omega
  have h := m_run hq hs hp hv hdx hdy 4 gφ (cX q c + dx) (cY q c + dy) 0 (by omega) (by omega) (by omega) (by
    cases h9 : onB q p v (cX q c + dx + (4 : Nat) * dx) (cY q c + dy + (4 : Nat) * dy) with
    | false => rfl
    | true =>
      have h8 := onB_in h9
      generalize cX q c = a at *
      generalize cY q c = b at *
      omega)
  rw [Nat.zero_add] at h
  exact h
theorem m_isLine {q : Cfg} {s : gS} {p : Nat → Nat} {v c : Nat} {dx dy : Int} (hq : okC q) (hs : MS q s) (hp : StB s p) (hv : v ≤ 2) (hc : c < cN q) (hdx : -1 ≤ dx ∧ dx ≤ 1) (hdy : -1 ≤ dy ∧ dy ≤ 1) (hd : dx ≠ 0 ∨ dy ≠ 0) : f_X9_isLine s (zI c) (zI dx) (zI dy) (zI v) = some (if lineAt q p v c dx dy = true then 1 else 0) := by
  unfold f_X9_isLine
  rw [m_from hq hs hp hv hc hdx hdy hd]
  simp only [Option.bind_some]
  rw [zI_neg, zI_neg, m_from hq hs hp hv hc (by omega) (by omega) (by omega)]
  simp only [Option.bind_some]
  obtain ⟨q1, q2, q3, q4, q5, q6⟩ := id hq
  have r1 := runF_le (q := q) (p := p) (v := v) (dx := dx) (dy := dy) 4 (cX q c + dx) (cY q c + dy)
  have r2 := runF_le (q := q) (p := p) (v := v) (dx := -dx) (dy := -dy) 4 (cX q c + -dx) (cY q c + -dy)
  rw [hs.2.2.1]
  simp (disch := omega) only [zI_1, zI_add, zI_lt]
  rw [← zI_1]
  unfold lineAt
  generalize runF q p v dx dy 4 (cX q c + dx) (cY q c + dy) = a at *
  generalize runF q p v (-dx) (-dy) 4 (cX q c + -dx) (cY q c + -dy) = b at *
  by_cases e : cK q ≤ 1 + a + b
  · rw [if_neg (by omega), if_pos (by simpa using e)]
  · rw [if_pos (by omega), if_neg (by simpa using e)]
theorem m_makesRow {q : Cfg} {s : gS} {p : Nat → Nat} {v c : Nat} (hq : okC q) (hs : MS q s) (hp : StB s p) (hv : v ≤ 2) (hc : c < cN q) : f_X9_makesRow s (zI c) (zI v) = some (if rowAt q p v c = true then 1 else 0) := by
  unfold f_X9_makesRow
  have h1 := m_isLine (dx := 1) (dy := 0) hq hs hp hv hc (by omega) (by omega) (by omega)
  have h2 := m_isLine (dx := 0) (dy := 1) hq hs hp hv hc (by omega) (by omega) (by omega)
  have h3 := m_isLine (dx := 1) (dy := 1) hq hs hp hv hc (by omega) (by omega) (by omega)
  have h4 := m_isLine (dx := 1) (dy := -1) hq hs hp hv hc (by omega) (by omega) (by omega)
  rw [← zI_0, ← zI_1] at h1 h2
  rw [← zI_1] at h3
  rw [← zI_1, ← zI_m1] at h4
  unfold rowAt
  rw [h1, h2, h3, h4]
  simp only [Option.bind_some, if10]
  cases lineAt q p v c 1 0 <;> cases lineAt q p v c 0 1 <;> cases lineAt q p v c 1 1 <;> cases lineAt q p v c 1 (-1) <;> rfl
theorem m_isMove {q : Cfg} {s : gS} {p : Nat → Nat} {z : Int} (hq : okC q) (hs : MS q s) (hp : StB s p) (hz : -2147483648 ≤ z ∧ z < 2147483648) : f_X9_isMove s (zI z) = some (if 0 ≤ z ∧ isMv q p z.toNat = true then 1 else 0) := by
  have hn := okC_n hq
  obtain ⟨q1, q2, q3, q4, -⟩ := id hq
  unfold f_X9_isMove
  have hN : (cW q : Int) * (cH q : Int) = (cN q : Int) := by unfold cN; rw [Int.natCast_mul]
  have hg := bI_le (cG q)
  rw [hs.1, hs.2.1, hs.2.2.2.1, zI_mul, hN]
  have z0 : (some (0 : Int32)) = some (zI 0) := by rw [zI_0]
  have hmv : (0 ≤ z ∧ isMv q p z.toNat = true) = (0 ≤ z ∧ z < cN q ∧ p z.toNat = 2 ∧ (cG q = false ∨ z < cW q ∨ p (z.toNat - cW q) ≠ 2)) := by
    unfold isMv
    rw [decide_eq_true_eq]
    apply propext
    constructor
    · intro h
      refine ⟨h.1, by omega, h.2.2.1, ?_⟩
      rcases h.2.2.2 with h | h | h
      · exact Or.inl h
      · exact Or.inr (Or.inl (by omega))
      · exact Or.inr (Or.inr h)
    · intro h
      refine ⟨h.1, by omega, h.2.2.1, ?_⟩
      rcases h.2.2.2 with h | h | h
      · exact Or.inl h
      · exact Or.inr (Or.inl (by omega))
      · exact Or.inr (Or.inr h)
  simp only [hmv]
  simp (disch := omega) only [zI_0, zI_1, zI_lt, zI_le]
  by_cases c1 : z < 0
  · rw [if_pos c1, if_neg (by omega)]
  · rw [if_neg c1]
    by_cases c2 : (cN q : Int) ≤ z
    · rw [if_pos c2, if_neg (by omega)]
    · have hpz := hp.1 z.toNat
      rw [if_neg c2, zI_in (by omega) (by omega), if_pos (by simp only [decide_eq_true_eq]; omega), zI_cl (by omega) (by omega), hp.2 _ (by omega), zI_2]
      simp (disch := omega) only [zI_eq]
      by_cases c3 : (p z.toNat : Int) = 2
      · rw [if_pos c3]
        have c3' : p z.toNat = 2 := by omega
        by_cases c4 : bI (cG q) = 0
        · have c4' : cG q = false := by
            cases h : cG q with
            | false => rfl
            | true => rw [h] at c4; cases c4
          rw [if_pos c4, if_pos ⟨by omega, by omega, c3', Or.inl c4'⟩]
        · have c4' : cG q = true := by
            cases h : cG q with
            | true => rfl
            | false => rw [h] at c4; exact absurd rfl c4
          rw [if_neg c4]
          by_cases c5 : z < cW q
          · rw [if_pos c5, if_pos ⟨by omega, by omega, c3', Or.inr (Or.inl c5)⟩]
          · have e1 : (z - (cW q : Int)).toNat = z.toNat - cW q := by omega
            have hpw := hp.1 (z.toNat - cW q)
            rw [if_neg c5, zI_sub, zI_in (by omega) (by omega), if_pos (by simp only [decide_eq_true_eq]; omega), zI_cl (by omega) (by omega), e1, hp.2 _ (by omega)]
            simp (disch := omega) only [zI_eq]
            by_cases c6 : (p (z.toNat - cW q) : Int) = 2
            · rw [if_pos c6, if_neg]
              intro h
              rcases h.2.2.2 with h | h | h
              · rw [c4'] at h; cases h
              · omega
              · omega
            · rw [if_neg c6, if_pos ⟨by omega, by omega, c3', Or.inr (Or.inr (by omega))⟩]
      · rw [if_neg c3, if_neg]
        intro h
        omega
