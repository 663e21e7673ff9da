/-! the lowest bit; sets of cells that grow smaller -/
theorem bt_neg (m : Int32) (i : Nat) : bt (-m) i = (bt m i ^^ (decide (i < 32) && decide (∃ j, j < i ∧ bt m j = true))) := by
  show (-m.toBitVec).getLsbD i = _
  rw [BitVec.getLsbD_neg]
  rfl
theorem low_bit {m : Int32} {j : Nat} (hj : j < 32) (h1 : bt m j = true) (h0 : ∀ i, i < j → bt m i = false) : m &&& (-m) = b5 j := by
  apply bt_ext
  intro i hi
  rw [bt_and, bt_neg, bt_b5 hj, decide_eq_true hi]
  rcases Nat.lt_trichotomy i j with e | e | e
  · rw [h0 i e, decide_eq_false (show ¬ i = j by omega)]
    rfl
  · subst e
    rw [h1, decide_eq_true rfl, decide_eq_false (by
      rintro ⟨k, k1, k2⟩
      rw [h0 k k1] at k2
      cases k2)]
    rfl
  · rw [decide_eq_false (show ¬ i = j by omega), decide_eq_true (show ∃ k, k < i ∧ bt m k = true from ⟨j, e, h1⟩)]
    cases bt m i <;> rfl
theorem fstF_min {f : Nat → Bool} : ∀ (m c j : Nat), c ≤ j → j < fstF f c m → f j = false
  | 0, c, j, h1, h2 => by
    rw [fstF] at h2
    omega
  | m + 1, c, j, h1, h2 => by
    rw [fstF] at h2
    by_cases e : f c = true
    · rw [if_pos e] at h2
      omega
    · rw [if_neg e] at h2
      by_cases e2 : j = c
      · rw [e2]; simpa using e
      · exact fstF_min m (c + 1) j (by omega) h2
theorem p5_mono {q : Cfg} (hq : okC q) {a b : Nat} (ha : a < cN q) (hb : b < cN q) (h : a ≤ b) : p5 q a ≤ p5 q b := by
  obtain ⟨x1, x2, x3⟩ := cell_xy hq ha
  obtain ⟨y1, y2, y3⟩ := cell_xy hq hb
  obtain ⟨q1, q2, q3, q4, -⟩ := hq
  have hd : a / cW q ≤ b / cW q := Nat.div_le_div_right h
  unfold p5
  by_cases e : a / cW q = b / cW q
  · rw [e] at x3 ⊢
    omega
  · omega
theorem p5_inj {q : Cfg} (hq : okC q) {a b : Nat} (ha : a < cN q) (hb : b < cN q) (h : p5 q a = p5 q b) : a = b := by
  rw [← (p5_ok hq ha).2.1, ← (p5_ok hq hb).2.1, h]
theorem Mk.low {q : Cfg} {f : Nat → Bool} {m : Int32} (hq : okC q) (h : Mk q f m) (hx : ∃ c, c < cN q ∧ f c = true) : fstF f 0 (cN q) < cN q ∧ f (fstF f 0 (cN q)) = true ∧ m &&& (-m) = b5 (p5 q (fstF f 0 (cN q))) := by
  obtain ⟨c, c1, c2⟩ := hx
  have g := fstF_lt (cN q) 0 ⟨c, by omega, by omega, c2⟩
  rw [Nat.zero_add] at g
  have hb := (p5_ok hq g.1).2.2.1
  refine ⟨g.1, g.2, low_bit (by omega) (by rw [h.bit hq g.1]; exact g.2) (fun i hi => ?_)⟩
  rw [h i]
  cases e : inBd q i with
  | false => rfl
  | true =>
    obtain ⟨k1, k2, k3⟩ := c5_ok hq e
    rcases Nat.lt_or_ge (c5 q i) (fstF f 0 (cN q)) with l | l
    · rw [fstF_min (cN q) 0 _ (by omega) l]
      rfl
    · have := p5_mono hq g.1 k1 l
      rw [k2] at this
      omega
theorem Mk.one {q : Cfg} (hq : okC q) {c : Nat} (hc : c < cN q) : Mk q (fun a => decide (a = c)) (b5 (p5 q c)) := fun i => by
  obtain ⟨h1, h2, h3, -⟩ := p5_ok hq hc
  rw [bt_b5 (by omega)]
  by_cases e : i = p5 q c
  · subst e
    rw [h1, h2]
    simp
  · rw [decide_eq_false e]
    cases e2 : inBd q i with
    | false => rfl
    | true =>
      have : ¬ c5 q i = c := by
        intro g
        have := (c5_ok hq e2).2.1
        rw [g] at this
        exact e this.symm
      simp [this]
theorem Mk.less {q : Cfg} {f : Nat → Bool} {m : Int32} (hq : okC q) (h : Mk q f m) {c : Nat} (hc : c < cN q) (hf : f c = true) : Mk q (fun a => f a && !decide (a = c)) (m ^^^ b5 (p5 q c)) := fun i => by
  rw [bt_xor, h i, Mk.one hq hc i]
  by_cases e : c5 q i = c
  · rw [e, hf]
    cases inBd q i <;> simp
  · cases inBd q i <;> simp [e]
theorem Mk.add {q : Cfg} {p : Nat → Nat} {v c : Nat} {m : Int32} (hq : okC q) (h : Mk q (fun a => decide (p a = v)) m) (hc : c < cN q) : Mk q (fun a => decide (set1 p c v a = v)) (m ||| b5 (p5 q c)) := by
  refine (h.or (Mk.one hq hc)).eq hq (fun a ha => ?_)
  unfold set1
  by_cases e : a = c
  · simp [e]
  · simp [e]
theorem Mk.oth {q : Cfg} {p : Nat → Nat} {v u c : Nat} {m : Int32} (hq : okC q) (h : Mk q (fun a => decide (p a = v)) m) (hp : p c = 2) (hu : u ≠ v) (hv : v ≠ 2) : Mk q (fun a => decide (set1 p c u a = v)) m := by
  refine h.eq hq (fun a ha => ?_)
  unfold set1
  by_cases e : a = c
  · rw [e, if_pos rfl, hp, decide_eq_false (fun g => hv g.symm), decide_eq_false hu]
  · rw [if_neg e]
theorem cnt_less {f : Nat → Bool} {c : Nat} (hf : f c = true) : ∀ {m : Nat}, c < m → cntF (fun a => f a && !decide (a = c)) m + 1 = cntF f m := by
  have low : ∀ {m : Nat}, m ≤ c → cntF (fun a => f a && !decide (a = c)) m = cntF f m := by
    intro m
    induction m with
    | zero => intro _; rfl
    | succ m ih =>
      intro hm
      rw [cntF, cntF, ih (by omega)]
      have : ¬ m = c := by omega
      simp [this]
  intro m
  induction m with
  | zero => intro h; omega
  | succ m ih =>
    intro hm
    rw [cntF, cntF]
    by_cases e : m = c
    · subst e
      rw [low (Nat.le_refl _)]
      simp [hf]
    · have := ih (by omega)
      simp only [e, decide_false, Bool.not_false, Bool.and_true]
      omega
theorem cnt_zero {f : Nat → Bool} : ∀ {m : Nat}, cntF f m = 0 → ∀ c, c < m → f c = false
  | 0, _, c, h => by omega
  | m + 1, h, c, hc => by
    rw [cntF] at h
    by_cases e : c = m
    · subst e
      cases g : f c with
      | false => rfl
      | true => rw [g, if_pos rfl] at h; omega
    · exact cnt_zero (m := m) (by omega) c (by omega)
/-- the loop over what is left -/
theorem c_loop {q : Cfg} (hq : okC q) {F : gS → Int32 → Int32 → Int32 → Int32 → Option Int32} {s : gS} {x1 x2 x3 x4 : Int32} {G : Nat → Bool} : ∀ (m k φ : Nat) (f : Nat → Bool) (l : Int32), cntF f (cN q) = m → k + m ≤ 16 → m < φ → Mk q f l → (∀ c, c < cN q → f c = true → F s x2 (x1 ||| b5 (p5 q c)) (x3 - 1) (1 - x4) = some (if G c = true then 0 else 1)) → f_X5_reaches_101 F φ s x1 x2 x3 x4 l (zI k) = some (if ∃ c, c < cN q ∧ f c = true ∧ G c = true then 1 else 0)
  | 0, k, φ, f, l, hm, hk, hf, hl, hF => by
    obtain ⟨φ, rfl⟩ : ∃ m, φ = m + 1 := ⟨φ - 1, by omega⟩
    have h0 := cnt_zero hm
    have hz : l = 0 := (hl.zero hq).mpr h0
    have hno : ¬ ∃ c, c < cN q ∧ f c = true ∧ G c = true := by
      rintro ⟨c, c1, c2, -⟩
      rw [h0 c c1] at c2
      cases c2
    rw [f_X5_reaches_101, if_neg hno]
    by_cases e : (16 : Int32) ≤ zI k
    · rw [if_pos e]
    · rw [if_neg e, if_pos hz]
  | m + 1, k, φ, f, l, hm, hk, hf, hl, hF => by
    obtain ⟨φ, rfl⟩ : ∃ m, φ = m + 1 := ⟨φ - 1, by omega⟩
    obtain ⟨c, c1, c2⟩ := cntF_pos (f := f) (m := cN q) (by omega)
    obtain ⟨g1, g2, g3⟩ := hl.low hq ⟨c, c1, c2⟩
    have hnz : ¬ l = 0 := by
      intro e
      have := (hl.zero hq).mp e c c1
      rw [this] at c2
      cases c2
    generalize hb : fstF f 0 (cN q) = b at *
    rw [f_X5_reaches_101, if_neg (by rw [zI_16, zI_le (by omega) (by omega) (by omega) (by omega)]; omega), if_neg hnz, g3, hF b g1 g2, ob9]
    by_cases e : G b = true
    · rw [if_pos e, if_pos rfl, if_pos ⟨b, g1, g2, e⟩]
    · rw [if_neg e, if_neg (by decide), zsuc]
      have hc := cnt_less g2 g1
      rw [c_loop hq m (k + 1) φ (fun a => f a && !decide (a = b)) _ (by omega) (by omega) (by omega) (hl.less hq g1 g2) (fun a a1 a2 => hF a a1 (by simp at a2; exact a2.1))]
      congr 1
      have : (∃ c, c < cN q ∧ (f c && !decide (c = b)) = true ∧ G c = true) ↔ ∃ c, c < cN q ∧ f c = true ∧ G c = true := by
        constructor
        · rintro ⟨a, a1, a2, a3⟩
          simp at a2
          exact ⟨a, a1, a2.1, a3⟩
        · rintro ⟨a, a1, a2, a3⟩
          refine ⟨a, a1, ?_, a3⟩
          have : a ≠ b := by
            intro g
            rw [g] at a3
            exact e a3
          simp [a2, this]
      simp only [this]
