/-! LINES: by the place of their first bit and their step; a row at a cell is a line through it -/
def msM (h : Nat → Bool) : Nat → Int32
  | 0 => 0
  | n + 1 => msM h n ||| (if h n = true then b5 n else 0)
theorem msM_bt (h : Nat → Bool) : ∀ n, n ≤ 32 → ∀ i, bt (msM h n) i = (decide (i < n) && h i)
  | 0, _, i => by
    rw [msM, bt_0, decide_eq_false (by omega)]
    rfl
  | n + 1, hn, i => by
    rw [msM, bt_or, msM_bt h n (by omega) i]
    by_cases g : i = n
    · subst g
      rw [decide_eq_false (by omega), decide_eq_true (show i < i + 1 by omega), Bool.false_and, Bool.false_or, Bool.true_and]
      cases e : h i with
      | true => rw [if_pos rfl, bt_b5 (by omega), decide_eq_true rfl]
      | false => rw [if_neg (by decide), bt_0]
    · have e1 : decide (i < n + 1) = decide (i < n) := by
        by_cases l : i < n
        · rw [decide_eq_true l, decide_eq_true (by omega)]
        · rw [decide_eq_false l, decide_eq_false (by omega)]
      rw [e1]
      cases e : h n with
      | true => rw [if_pos rfl, bt_b5 (by omega), decide_eq_false g, Bool.or_false]
      | false => rw [if_neg (by decide), bt_0, Bool.or_false]
theorem Mk.ex {q : Cfg} (hq : okC q) (f : Nat → Bool) : ∃ m, Mk q f m := by
  refine ⟨msM (fun i => inBd q i && f (c5 q i)) 20, fun i => ?_⟩
  rw [msM_bt _ 20 (by omega)]
  cases e : inBd q i with
  | false => rw [Bool.false_and, Bool.and_false]
  | true =>
    have := (c5_ok hq e).2.2
    rw [decide_eq_true (by omega), Bool.true_and]
def isT (t : Nat) : Prop := t = 1 ∨ t = 4 ∨ t = 5 ∨ t = 6
theorem isT.rng {t : Nat} (h : isT t) : 1 ≤ t ∧ t ≤ 6 := by
  unfold isT at h
  omega
theorem bt_c {m : Int32} {x y : Nat} (h : bt m x = true) (e : x = y) : bt m y = true := by rw [← e]; exact h
theorem cm_to {k t i : Nat} {m : Int32} (hk : k = 2 ∨ k = 3 ∨ k = 4) (h : cmB k m t i = true) : ∃ a, a < k ∧ a * t ≤ i ∧ ∀ j, j < k → j ≠ a → bt m (i - a * t + j * t) = true := by
  unfold cmB lnB at h
  rcases hk with rfl | rfl | rfl
  · simp only [↓reduceIte, Bool.or_eq_true, Bool.and_eq_true, Bool.not_eq_true', decide_eq_false_iff_not] at h
    rcases h with h | h
    · refine ⟨0, by omega, by omega, fun j h1 h2 => ?_⟩
      obtain rfl : j = 1 := by omega
      exact bt_c h (by omega)
    · refine ⟨1, by omega, by omega, fun j h1 h2 => ?_⟩
      obtain rfl : j = 0 := by omega
      exact bt_c h.2 (by omega)
  · rw [if_neg (by decide), if_pos rfl] at h
    simp only [Bool.or_eq_true, Bool.and_eq_true, Bool.not_eq_true', decide_eq_false_iff_not] at h
    rcases h with (h | h) | h
    · refine ⟨0, by omega, by omega, fun j h1 h2 => ?_⟩
      rcases (show j = 1 ∨ j = 2 by omega) with rfl | rfl
      · exact bt_c h.1 (by omega)
      · exact bt_c h.2 (by omega)
    · refine ⟨2, by omega, by omega, fun j h1 h2 => ?_⟩
      rcases (show j = 0 ∨ j = 1 by omega) with rfl | rfl
      · exact bt_c h.2.2 (by omega)
      · exact bt_c h.1.2 (by omega)
    · refine ⟨1, by omega, by omega, fun j h1 h2 => ?_⟩
      rcases (show j = 0 ∨ j = 2 by omega) with rfl | rfl
      · exact bt_c h.2.2 (by omega)
      · exact bt_c h.1 (by omega)
  · rw [if_neg (by decide), if_neg (by decide)] at h
    simp only [Bool.or_eq_true, Bool.and_eq_true, Bool.not_eq_true', decide_eq_false_iff_not] at h
    rcases h with (h | h) | (h | h)
    · refine ⟨0, by omega, by omega, fun j h1 h2 => ?_⟩
      rcases (show j = 1 ∨ j = 2 ∨ j = 3 by omega) with rfl | rfl | rfl
      · exact bt_c h.1.1 (by omega)
      · exact bt_c h.1.2 (by omega)
      · exact bt_c h.2 (by omega)
    · refine ⟨3, by omega, by omega, fun j h1 h2 => ?_⟩
      rcases (show j = 0 ∨ j = 1 ∨ j = 2 by omega) with rfl | rfl | rfl
      · exact bt_c h.2.2 (by omega)
      · exact bt_c h.1.2.2 (by omega)
      · exact bt_c h.1.1.2 (by omega)
    · refine ⟨1, by omega, by omega, fun j h1 h2 => ?_⟩
      rcases (show j = 0 ∨ j = 2 ∨ j = 3 by omega) with rfl | rfl | rfl
      · exact bt_c h.2.2 (by omega)
      · exact bt_c h.1.1 (by omega)
      · exact bt_c h.1.2 (by omega)
    · refine ⟨2, by omega, by omega, fun j h1 h2 => ?_⟩
      rcases (show j = 0 ∨ j = 1 ∨ j = 3 by omega) with rfl | rfl | rfl
      · exact bt_c h.2.2.2 (by omega)
      · exact bt_c h.2.1.2 (by omega)
      · exact bt_c h.1 (by omega)
theorem cm_of {k t i a : Nat} {m : Int32} (hk : k = 2 ∨ k = 3 ∨ k = 4) (ha : a < k) (hi : a * t ≤ i) (h : ∀ j, j < k → j ≠ a → bt m (i - a * t + j * t) = true) : cmB k m t i = true := by
  unfold cmB lnB
  rcases hk with rfl | rfl | rfl
  · simp only [↓reduceIte, Bool.or_eq_true, Bool.and_eq_true, Bool.not_eq_true', decide_eq_false_iff_not]
    rcases (show a = 0 ∨ a = 1 by omega) with rfl | rfl
    · exact Or.inl (bt_c (h 1 (by omega) (by omega)) (by omega))
    · exact Or.inr ⟨by omega, bt_c (h 0 (by omega) (by omega)) (by omega)⟩
  · rw [if_neg (by decide), if_pos rfl]
    simp only [Bool.or_eq_true, Bool.and_eq_true, Bool.not_eq_true', decide_eq_false_iff_not]
    rcases (show a = 0 ∨ a = 1 ∨ a = 2 by omega) with rfl | rfl | rfl
    · exact Or.inl (Or.inl ⟨bt_c (h 1 (by omega) (by omega)) (by omega), bt_c (h 2 (by omega) (by omega)) (by omega)⟩)
    · exact Or.inr ⟨bt_c (h 2 (by omega) (by omega)) (by omega), by omega, bt_c (h 0 (by omega) (by omega)) (by omega)⟩
    · exact Or.inl (Or.inr ⟨⟨by omega, bt_c (h 1 (by omega) (by omega)) (by omega)⟩, by omega, bt_c (h 0 (by omega) (by omega)) (by omega)⟩)
  · rw [if_neg (by decide), if_neg (by decide)]
    simp only [Bool.or_eq_true, Bool.and_eq_true, Bool.not_eq_true', decide_eq_false_iff_not]
    rcases (show a = 0 ∨ a = 1 ∨ a = 2 ∨ a = 3 by omega) with rfl | rfl | rfl | rfl
    · exact Or.inl (Or.inl ⟨⟨bt_c (h 1 (by omega) (by omega)) (by omega), bt_c (h 2 (by omega) (by omega)) (by omega)⟩, bt_c (h 3 (by omega) (by omega)) (by omega)⟩)
    · exact Or.inr (Or.inl ⟨⟨bt_c (h 2 (by omega) (by omega)) (by omega), bt_c (h 3 (by omega) (by omega)) (by omega)⟩, by omega, bt_c (h 0 (by omega) (by omega)) (by omega)⟩)
    · exact Or.inr (Or.inr ⟨bt_c (h 3 (by omega) (by omega)) (by omega), ⟨by omega, bt_c (h 1 (by omega) (by omega)) (by omega)⟩, by omega, bt_c (h 0 (by omega) (by omega)) (by omega)⟩)
    · exact Or.inl (Or.inr ⟨⟨⟨by omega, bt_c (h 2 (by omega) (by omega)) (by omega)⟩, by omega, bt_c (h 1 (by omega) (by omega)) (by omega)⟩, by omega, bt_c (h 0 (by omega) (by omega)) (by omega)⟩)
theorem row_cm {q : Cfg} {p : Nat → Nat} {v c : Nat} {m : Int32} (hq : okC q) (hm : Mk q (fun c => decide (p c = v)) m) (hc : c < cN q) : rowAt q p v c = true ↔ ∃ t, isT t ∧ cmB (cK q) m t (p5 q c) = true := by
  have c1 := cm_line (t := 1) (dx := 1) (dy := 0) hq hm hc (by omega) (by omega) (by omega) (by omega)
  have c2 := cm_line (t := 4) (dx := -1) (dy := 1) hq hm hc (by omega) (by omega) (by omega) (by omega)
  have c3 := cm_line (t := 5) (dx := 0) (dy := 1) hq hm hc (by omega) (by omega) (by omega) (by omega)
  have c4 := cm_line (t := 6) (dx := 1) (dy := 1) hq hm hc (by omega) (by omega) (by omega) (by omega)
  have e4 : lineAt q p v c (-1) 1 = lineAt q p v c 1 (-1) := lineAt_neg (dx := 1) (dy := -1)
  rw [e4] at c2
  unfold rowAt
  rw [← c1, ← c2, ← c3, ← c4]
  simp only [Bool.or_eq_true]
  constructor
  · rintro (((h | h) | h) | h)
    · exact ⟨1, Or.inl rfl, h⟩
    · exact ⟨5, Or.inr (Or.inr (Or.inl rfl)), h⟩
    · exact ⟨6, Or.inr (Or.inr (Or.inr rfl)), h⟩
    · exact ⟨4, Or.inr (Or.inl rfl), h⟩
  · rintro ⟨t, ht, h⟩
    rcases ht with rfl | rfl | rfl | rfl
    · exact Or.inl (Or.inl (Or.inl h))
    · exact Or.inr h
    · exact Or.inl (Or.inl (Or.inr h))
    · exact Or.inl (Or.inr h)
theorem okC_k {q : Cfg} (hq : okC q) : cK q = 2 ∨ cK q = 3 ∨ cK q = 4 := by
  obtain ⟨-, -, -, -, h1, h2⟩ := hq
  omega
theorem row_to {q : Cfg} {p : Nat → Nat} {v c : Nat} (hq : okC q) (hc : c < cN q) (h : rowAt q p v c = true) : ∃ t a, isT t ∧ a < cK q ∧ a * t ≤ p5 q c ∧ ∀ j, j < cK q → j ≠ a → inBd q (p5 q c - a * t + j * t) = true ∧ p (c5 q (p5 q c - a * t + j * t)) = v := by
  obtain ⟨m, hm⟩ := Mk.ex hq (fun c => decide (p c = v))
  obtain ⟨t, ht, h⟩ := (row_cm hq hm hc).1 h
  obtain ⟨a, a1, a2, a3⟩ := cm_to (okC_k hq) h
  refine ⟨t, a, ht, a1, a2, fun j h1 h2 => ?_⟩
  have h3 := a3 j h1 h2
  rw [hm, Bool.and_eq_true, decide_eq_true_eq] at h3
  exact h3
theorem row_of {q : Cfg} {p : Nat → Nat} {v c t a : Nat} (hq : okC q) (hc : c < cN q) (ht : isT t) (ha : a < cK q) (h1 : a * t ≤ p5 q c) (h : ∀ j, j < cK q → j ≠ a → inBd q (p5 q c - a * t + j * t) = true ∧ p (c5 q (p5 q c - a * t + j * t)) = v) : rowAt q p v c = true := by
  obtain ⟨m, hm⟩ := Mk.ex hq (fun c => decide (p c = v))
  refine (row_cm hq hm hc).2 ⟨t, ht, cm_of (okC_k hq) ha h1 (fun j h2 h3 => ?_)⟩
  rw [hm, Bool.and_eq_true, decide_eq_true_eq]
  exact h j h2 h3
/-- a line of stones of one player -/
def HL (q : Cfg) (v : Nat) (p : Nat → Nat) : Prop := ∃ t s, isT t ∧ ∀ j, j < cK q → inBd q (s + j * t) = true ∧ p (c5 q (s + j * t)) = v
theorem HL.row {q : Cfg} {p : Nat → Nat} {v c t s a : Nat} (hq : okC q) (hc : c < cN q) (ht : isT t) (ha : a < cK q) (e : p5 q c = s + a * t) (h : ∀ j, j < cK q → j ≠ a → inBd q (s + j * t) = true ∧ p (c5 q (s + j * t)) = v) : rowAt q p v c = true := by
  refine row_of hq hc ht ha (by omega) (fun j h1 h2 => ?_)
  have e1 : p5 q c - a * t = s := by omega
  rw [e1]
  exact h j h1 h2
theorem mul_ne {t j a : Nat} (ht : 1 ≤ t) (h : j ≠ a) : j * t ≠ a * t := fun e => h (Nat.eq_of_mul_eq_mul_right ht e)
theorem no_line {q : Cfg} {mv : Nat → Nat} {v : Nat} (hq : okC q) (hv : v ≤ 1) : ∀ n, okM q mv n → winF q mv n = 3 → ¬ HL q v (posF mv n)
  | 0, _, _, h => by
    obtain ⟨t, s, -, h⟩ := h
    have hk := okC_k hq
    have h2 : (2 : Nat) = v := (h 0 (by omega)).2
    omega
  | n + 1, hk, hw, h => by
    obtain ⟨t, s, ht, h⟩ := h
    have ih := no_line hq hv n (hk.le (by omega)) (hk n (by omega)).1
    have hc : mv n < cN q := okM_lt hk (by omega)
    have hts := ht.rng
    by_cases ev : v = n % 2 ∧ ∃ a, a < cK q ∧ c5 q (s + a * t) = mv n
    · obtain ⟨e1, a, a1, a2⟩ := ev
      have ep : p5 q (mv n) = s + a * t := by rw [← a2]; exact (c5_ok hq (h a a1).1).2.1
      have hr : rowAt q (posF mv n) (n % 2) (mv n) = true := by
        rw [← e1]
        refine HL.row hq hc ht a1 ep (fun j h1 h2 => ?_)
        obtain ⟨b1, b2⟩ := h j h1
        refine ⟨b1, ?_⟩
        have hne : c5 q (s + j * t) ≠ mv n := by
          intro e
          have e2 : p5 q (mv n) = s + j * t := by rw [← e]; exact (c5_ok hq b1).2.1
          have := mul_ne hts.1 h2
          omega
        have b3 : set1 (posF mv n) (mv n) (n % 2) (c5 q (s + j * t)) = v := b2
        unfold set1 at b3
        rw [if_neg hne] at b3
        exact b3
      rw [winF, if_pos hr] at hw
      by_cases g : cL q = true
      · rw [if_pos g] at hw; omega
      · rw [if_neg g] at hw; omega
    · refine ih ⟨t, s, ht, fun j h1 => ?_⟩
      obtain ⟨b1, b2⟩ := h j h1
      refine ⟨b1, ?_⟩
      have b3 : set1 (posF mv n) (mv n) (n % 2) (c5 q (s + j * t)) = v := b2
      unfold set1 at b3
      by_cases e : c5 q (s + j * t) = mv n
      · rw [if_pos e] at b3
        exact absurd ⟨b3.symm, j, h1, e⟩ ev
      · rw [if_neg e] at b3
        exact b3
