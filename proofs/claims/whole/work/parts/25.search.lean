/-! THE VALUE: plain facts -/
def mvF (q : Cfg) (e : Nat) (p : Nat → Nat) (n c : Nat) : Int := if rowAt q p (n % 2) c = true then (if cL q = true then -1 else 1) else if n + 1 = cN q then 0 else -(valF q e (set1 p c (n % 2)) (n + 1))
theorem valF_s (q : Cfg) (e : Nat) (p : Nat → Nat) (n : Nat) : valF q (e + 1) p n = bestF (mvF q e p n) (isMv q p) (cN q) := rfl
def nfree (p : Nat → Nat) : Nat → Nat
  | 0 => 0
  | m + 1 => nfree p m + (if p m = 2 then 1 else 0)
def okP (q : Cfg) (p : Nat → Nat) (n : Nat) : Prop := nfree p (cN q) + n = cN q
theorem nfree_out {p : Nat → Nat} {c v : Nat} : ∀ {m : Nat}, m ≤ c → nfree (set1 p c v) m = nfree p m
  | 0, _ => rfl
  | m + 1, h => by
    have e : set1 p c v m = p m := by unfold set1; rw [if_neg (by omega)]
    rw [nfree, nfree, nfree_out (by omega), e]
theorem nfree_set {p : Nat → Nat} {c v : Nat} (hp : p c = 2) (hv : v ≠ 2) : ∀ {m : Nat}, c < m → nfree (set1 p c v) m + 1 = nfree p m
  | 0, h => by omega
  | m + 1, h => by
    rw [nfree, nfree]
    by_cases e : m = c
    · subst e
      have e1 : set1 p m v m = v := by unfold set1; rw [if_pos rfl]
      rw [nfree_out (Nat.le_refl _), e1, if_neg hv, if_pos hp]
    · have e1 : set1 p c v m = p m := by unfold set1; rw [if_neg e]
      have ih := nfree_set hp hv (m := m) (by omega)
      rw [e1]
      omega
theorem nfree_ex {p : Nat → Nat} : ∀ {m : Nat}, 0 < nfree p m → ∃ c, c < m ∧ p c = 2
  | 0, h => by cases h
  | m + 1, h => by
    by_cases e : p m = 2
    · exact ⟨m, by omega, e⟩
    · rw [nfree, if_neg e] at h
      obtain ⟨c, h1, h2⟩ := nfree_ex (m := m) (by omega)
      exact ⟨c, by omega, h2⟩
theorem mv_ex {q : Cfg} {p : Nat → Nat} : ∀ (c : Nat), c < cN q → p c = 2 → (∀ j, j < c → p j ≠ 2) → isMv q p c = true := by
  intro c h1 h2 h3
  unfold isMv
  rw [decide_eq_true_eq]
  refine ⟨h1, h2, ?_⟩
  by_cases e : c < cW q
  · exact Or.inr (Or.inl e)
  · by_cases e2 : cW q = 0
    · exact absurd h1 (by unfold cN; rw [e2, Nat.zero_mul]; omega)
    · exact Or.inr (Or.inr (h3 _ (by omega)))
theorem mv_some {q : Cfg} {p : Nat → Nat} {n : Nat} (h : okP q p n) (hn : n < cN q) : ∃ c, c < cN q ∧ isMv q p c = true := by
  unfold okP at h
  obtain ⟨c, h1, h2⟩ := nfree_ex (p := p) (m := cN q) (by omega)
  have key : ∀ (k c : Nat), c ≤ k → c < cN q → p c = 2 → ∃ d, d < cN q ∧ isMv q p d = true := by
    intro k
    induction k with
    | zero =>
      intro c g1 g2 g3
      exact ⟨c, g2, mv_ex c g2 g3 (fun j hj => by omega)⟩
    | succ k ih =>
      intro c g1 g2 g3
      by_cases e : ∃ j, j < c ∧ p j = 2
      · obtain ⟨j, j1, j2⟩ := e
        exact ih j (by omega) (by omega) j2
      · exact ⟨c, g2, mv_ex c g2 g3 (fun j hj h => e ⟨j, hj, h⟩)⟩
  exact key c c (Nat.le_refl _) h1 h2
theorem isMv_in {q : Cfg} {p : Nat → Nat} {c : Nat} (h : isMv q p c = true) : c < cN q ∧ p c = 2 := ⟨(of_decide_eq_true h : _ ∧ _ ∧ _).1, (of_decide_eq_true h : _ ∧ _ ∧ _).2.1⟩
theorem okP.set {q : Cfg} {p : Nat → Nat} {n c : Nat} (h : okP q p n) (hc : isMv q p c = true) : okP q (set1 p c (n % 2)) (n + 1) := by
  obtain ⟨h1, h2⟩ := isMv_in hc
  have h3 := nfree_set (v := n % 2) h2 (by omega) h1
  unfold okP at *
  omega
theorem bestF_ge {f : Nat → Int} {ok : Nat → Bool} {c : Nat} (h : ok c = true) : ∀ {m : Nat}, c < m → f c ≤ bestF f ok m
  | 0, hc => by omega
  | m + 1, hc => by
    rw [bestF]
    by_cases e : c = m
    · subst e
      rw [if_pos h]
      omega
    · have ih := bestF_ge (f := f) h (m := m) (by omega)
      by_cases e2 : ok m = true
      · rw [if_pos e2]; omega
      · rw [if_neg e2]; exact ih
theorem bestF_le {f : Nat → Int} {ok : Nat → Bool} {b : Int} (hb : -2 ≤ b) : ∀ {m : Nat}, (∀ c, c < m → ok c = true → f c ≤ b) → bestF f ok m ≤ b
  | 0, _ => hb
  | m + 1, h => by
    rw [bestF]
    have ih := bestF_le (f := f) (ok := ok) hb (m := m) (fun c hc => h c (by omega))
    by_cases e2 : ok m = true
    · rw [if_pos e2]
      have := h m (by omega) e2
      omega
    · rw [if_neg e2]; exact ih
theorem valF_rng {q : Cfg} : ∀ (d : Nat) (p : Nat → Nat) (n : Nat), okP q p n → n < cN q → -1 ≤ valF q d p n ∧ valF q d p n ≤ 1
  | 0, _, _, _, _ => by rw [valF]; omega
  | d + 1, p, n, hp, hn => by
    have hm : ∀ c, isMv q p c = true → -1 ≤ mvF q d p n c ∧ mvF q d p n c ≤ 1 := by
      intro c hc
      unfold mvF
      by_cases e1 : rowAt q p (n % 2) c = true
      · rw [if_pos e1]
        by_cases e2 : cL q = true
        · rw [if_pos e2]; omega
        · rw [if_neg e2]; omega
      · rw [if_neg e1]
        by_cases e2 : n + 1 = cN q
        · rw [if_pos e2]; omega
        · rw [if_neg e2]
          have ih := valF_rng d (set1 p c (n % 2)) (n + 1) (hp.set hc) (by omega)
          omega
    rw [valF_s]
    obtain ⟨c, h1, h2⟩ := mv_some hp hn
    have g1 := bestF_ge (f := mvF q d p n) h2 h1
    have g2 := hm c h2
    exact ⟨by omega, bestF_le (by omega) (fun c hc h => (hm c h).2)⟩
theorem mvF_rng {q : Cfg} {d : Nat} {p : Nat → Nat} {n c : Nat} (hp : okP q p n) (hn : n < cN q) (hc : isMv q p c = true) : -1 ≤ mvF q d p n c ∧ mvF q d p n c ≤ 1 := by
  unfold mvF
  by_cases e1 : rowAt q p (n % 2) c = true
  · rw [if_pos e1]
    by_cases e2 : cL q = true
    · rw [if_pos e2]; omega
    · rw [if_neg e2]; omega
  · rw [if_neg e1]
    by_cases e2 : n + 1 = cN q
    · rw [if_pos e2]; omega
    · rw [if_neg e2]
      have ih := valF_rng d (set1 p c (n % 2)) (n + 1) (hp.set hc) (by omega)
      omega
def bfF (f : Nat → Int) (ok : Nat → Bool) : Int → Nat → Nat → Int
  | b, _, 0 => b
  | b, c, m + 1 => bfF f ok (if ok c = true then max b (f c) else b) (c + 1) m
theorem bfF_best {f : Nat → Int} {ok : Nat → Bool} : ∀ (m c : Nat), bfF f ok (bestF f ok c) c m = bestF f ok (c + m)
  | 0, c => rfl
  | m + 1, c => by
    rw [bfF]
    have ih := bfF_best (f := f) (ok := ok) m (c + 1)
    rw [bestF] at ih
    rw [ih]
    congr 1
    omega
theorem bfF_one {f : Nat → Int} {ok : Nat → Bool} (h : ∀ c, ok c = true → f c ≤ 1) : ∀ (m c : Nat), bfF f ok 1 c m = 1
  | 0, c => rfl
  | m + 1, c => by
    rw [bfF]
    have e : (if ok c = true then max 1 (f c) else 1) = 1 := by
      by_cases e2 : ok c = true
      · rw [if_pos e2]
        have := h c e2
        omega
      · rw [if_neg e2]
    rw [e]
    exact bfF_one h m (c + 1)
theorem bfF_rng {f : Nat → Int} {ok : Nat → Bool} (h : ∀ c, ok c = true → f c ≤ 1) : ∀ (m c : Nat) (b : Int), -2 ≤ b ∧ b ≤ 1 → -2 ≤ bfF f ok b c m ∧ bfF f ok b c m ≤ 1
  | 0, c, b, hb => hb
  | m + 1, c, b, hb => by
    rw [bfF]
    refine bfF_rng h m (c + 1) _ ?_
    by_cases e2 : ok c = true
    · rw [if_pos e2]
      have := h c e2
      omega
    · rw [if_neg e2]; exact hb
