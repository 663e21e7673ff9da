/-! THE CLASS's search: whether the value is at least a goal -/
def vvF (q : Cfg) (d : Nat) (p : Nat → Nat) (n : Nat) : Int := if n = cN q then 0 else valF q d p n
theorem nfree_0 {p : Nat → Nat} : ∀ {m : Nat}, nfree p m = 0 → ∀ c, c < m → p c ≠ 2
  | 0, _, c, h => by omega
  | m + 1, h, c, hc => by
    rw [nfree] at h
    by_cases e : c = m
    · subst e
      intro g
      rw [if_pos g] at h
      omega
    · exact nfree_0 (m := m) (by omega) c (by omega)
theorem bestF_iff {f : Nat → Int} {ok : Nat → Bool} {g : Int} (hg : -2 < g) : ∀ {m : Nat}, g ≤ bestF f ok m ↔ ∃ c, c < m ∧ ok c = true ∧ g ≤ f c
  | 0 => by
    rw [bestF]
    constructor
    · intro h; omega
    · rintro ⟨c, h, -⟩; omega
  | m + 1 => by
    have ih := bestF_iff (f := f) (ok := ok) hg (m := m)
    rw [bestF]
    constructor
    · intro h
      by_cases e : ok m = true
      · rw [if_pos e] at h
        by_cases e2 : g ≤ f m
        · exact ⟨m, by omega, e, e2⟩
        · obtain ⟨c, c1, c2⟩ := ih.mp (by omega)
          exact ⟨c, by omega, c2⟩
      · rw [if_neg e] at h
        obtain ⟨c, c1, c2⟩ := ih.mp h
        exact ⟨c, by omega, c2⟩
    · rintro ⟨c, c1, c2, c3⟩
      by_cases e : c = m
      · subst e
        rw [if_pos c2]
        omega
      · have := ih.mpr ⟨c, by omega, c2, c3⟩
        by_cases e2 : ok m = true
        · rw [if_pos e2]; omega
        · rw [if_neg e2]; exact this
def PS (q : Cfg) (p : Nat → Nat) (n : Nat) (a b : Int32) : Prop := (∀ j, p j ≤ 2) ∧ okP q p n ∧ Mk q (fun c => decide (p c = n % 2)) a ∧ Mk q (fun c => decide (p c = 1 - n % 2)) b
theorem PS.taken {q : Cfg} {p : Nat → Nat} {n : Nat} {a b : Int32} (hq : okC q) (h : PS q p n a b) : Mk q (fun c => decide (p c ≠ 2)) (a ||| b) := by
  refine (h.2.2.1.or h.2.2.2).eq hq (fun c hc => ?_)
  have := h.1 c
  by_cases e : p c = 2
  · simp [e]
    omega
  · simp [e]
    omega
theorem PS.next {q : Cfg} {p : Nat → Nat} {n c : Nat} {a b : Int32} (hq : okC q) (h : PS q p n a b) (hc : isMv q p c = true) : PS q (set1 p c (n % 2)) (n + 1) b (a ||| b5 (p5 q c)) := by
  obtain ⟨c1, c2⟩ := isMv_in hc
  have e1 : (n + 1) % 2 = 1 - n % 2 := by omega
  have e2 : 1 - (n + 1) % 2 = n % 2 := by omega
  refine ⟨fun j => ?_, h.2.1.set hc, ?_, ?_⟩
  · unfold set1
    by_cases e : j = c
    · rw [if_pos e]; omega
    · rw [if_neg e]; exact h.1 j
  · rw [e1]
    exact h.2.2.2.oth hq c2 (by omega) (by omega)
  · rw [e2]
    exact h.2.2.1.add hq c1
theorem mvF_vv {q : Cfg} {e : Nat} {p : Nat → Nat} {n c : Nat} (h : rowAt q p (n % 2) c = false) : mvF q e p n c = -(vvF q e (set1 p c (n % 2)) (n + 1)) := by
  unfold mvF vvF
  rw [if_neg (by rw [h]; decide)]
  by_cases e1 : n + 1 = cN q
  · rw [if_pos e1, if_pos e1]; rfl
  · rw [if_neg e1, if_neg e1]
theorem c_r27 {F : gS → Int32 → Int32 → Int32 → Int32 → Option Int32} {s : gS} {g : Nat} (hg : g ≤ 1) : f_X5_reaches_27 F s (zI g) = some (if (g : Int) ≤ 0 then 1 else 0) := by
  unfold f_X5_reaches_27
  by_cases e : g = 0
  · subst e
    rw [if_neg (by decide), if_pos (by decide)]
  · have : g = 1 := by omega
    subst this
    rw [if_pos (by decide), if_neg (by decide)]
set_option maxHeartbeats 1000000 in
theorem c_r68 {q : Cfg} {s : gS} {F : gS → Int32 → Int32 → Int32 → Int32 → Option Int32} (hq : okC q) {e n g : Nat} {p : Nat → Nat} {a b r w9 : Int32} (he : e ≤ 4) (hg : g ≤ 1) (ho : Mk q (isMv q p) r) (hw : Mk q (fun c => isMv q p c && rowAt q p (n % 2) c) w9) (hx : ∀ c, c < cN q → isMv q p c = true → rowAt q p (n % 2) c = true → cL q = true)
    (hF : ∀ c, c < cN q → isMv q p c = true → F s b (a ||| b5 (p5 q c)) (zI e) (zI ((1 - g : Nat) : Int)) = some (if ((1 - g : Nat) : Int) ≤ vvF q e (set1 p c (n % 2)) (n + 1) then 1 else 0)) :
    f_X5_reaches_68 F s a b (zI ((e + 1 : Nat) : Int)) (zI g) r w9 = some (if (g : Int) ≤ valF q (e + 1) p n then 1 else 0) := by
  have hN := okC_n hq
  have hleft : Mk q (fun c => isMv q p c && !rowAt q p (n % 2) c) (r &&& (w9 ^^^ (-1 : Int32))) := by
    refine Mk.eq hq (ho.and hq (g := fun c => !(isMv q p c && rowAt q p (n % 2) c)) (fun c hc => ?_)).1 (fun c hc => ?_)
    · have hb := (p5_ok hq hc).2.2.1
      rw [bt_not (by omega), hw.bit hq hc]
    · cases isMv q p c <;> cases rowAt q p (n % 2) c <;> rfl
  have hval : ((g : Int) ≤ valF q (e + 1) p n) ↔ ∃ c, c < cN q ∧ (isMv q p c && !rowAt q p (n % 2) c) = true ∧ (g : Int) ≤ mvF q e p n c := by
    rw [valF_s, bestF_iff (by omega)]
    constructor
    · rintro ⟨c, c1, c2, c3⟩
      refine ⟨c, c1, ?_, c3⟩
      cases e9 : rowAt q p (n % 2) c with
      | false => rw [c2]; rfl
      | true =>
        have hl := hx c c1 c2 e9
        unfold mvF at c3
        rw [if_pos e9, if_pos hl] at c3
        omega
    · rintro ⟨c, c1, c2, c3⟩
      simp only [Bool.and_eq_true] at c2
      exact ⟨c, c1, c2.1, c3⟩
  unfold f_X5_reaches_68
  by_cases e0 : e = 0
  · subst e0
    rw [if_pos (by decide)]
    have hm0 : ∀ c, (isMv q p c && !rowAt q p (n % 2) c) = true → mvF q 0 p n c = 0 := by
      intro c hc
      simp only [Bool.and_eq_true, Bool.not_eq_true'] at hc
      rw [mvF_vv hc.2]
      unfold vvF
      by_cases e1 : n + 1 = cN q
      · rw [if_pos e1]; rfl
      · rw [if_neg e1]; rfl
    by_cases eg : g = 0
    · subst eg
      rw [if_neg (by decide)]
      by_cases ez : r &&& (w9 ^^^ (-1 : Int32)) = 0
      · rw [if_pos ez, if_neg]
        rw [hval]
        rintro ⟨c, c1, c2, -⟩
        have := (hleft.zero hq).mp ez c c1
        rw [this] at c2
        cases c2
      · rw [if_neg ez, if_pos]
        rw [hval]
        by_cases ex : ∃ c, c < cN q ∧ (isMv q p c && !rowAt q p (n % 2) c) = true
        · obtain ⟨c, c1, c2⟩ := ex
          exact ⟨c, c1, c2, by rw [hm0 c c2]; decide⟩
        · exfalso
          apply ez
          rw [hleft.zero hq]
          intro c hc
          cases e9 : (isMv q p c && !rowAt q p (n % 2) c) with
          | false => rfl
          | true => exact absurd ⟨c, hc, e9⟩ ex
    · have : g = 1 := by omega
      subst this
      rw [if_pos (by decide), if_neg]
      rw [hval]
      rintro ⟨c, c1, c2, c3⟩
      rw [hm0 c c2] at c3
      omega
  · rw [if_neg (by rw [zI_1, zI_eq (by omega) (by omega) (by omega) (by omega)]; omega)]
    obtain ⟨m, hm⟩ := gf_big
    have hcn := cntF_le (fun c => isMv q p c && !rowAt q p (n % 2) c) (cN q)
    have e1 : (1 : Int32) - zI (g : Int) = zI ((1 - g : Nat) : Int) := by rw [zI_1, zI_sub]; exact zI_c (by omega)
    have hl := c_loop hq (F := F) (s := s) (x1 := a) (x2 := b) (x3 := zI ((e + 1 : Nat) : Int)) (x4 := zI g) (G := fun c => decide ((g : Int) ≤ mvF q e p n c)) _ 0 gφ _ _ rfl (by omega) (by omega) hleft (fun c hc hf => by
      simp only [Bool.and_eq_true, Bool.not_eq_true'] at hf
      rw [zpred, e1, hF c hc hf.1, mvF_vv hf.2]
      generalize vvF q e (set1 p c (n % 2)) (n + 1) = v
      by_cases k : (g : Int) ≤ -v
      · rw [if_neg (by omega), if_pos (by simpa using k)]
      · rw [if_pos (by omega), if_neg (by simpa using k)])
    rw [show zI ((0 : Nat) : Int) = (0 : Int32) from zI_0.symm] at hl
    rw [hl]
    simp only [decide_eq_true_eq]
    simp only [← hval]
set_option maxHeartbeats 1000000 in
theorem c_reach1 {q : Cfg} {s : gS} {F : gS → Int32 → Int32 → Int32 → Int32 → Option Int32} (h : CB q s) {d n g : Nat} {p : Nat → Nat} {a b : Int32} (hd : d ≤ 5) (hg : g ≤ 1) (hP : PS q p n a b) (hF : ∀ e, d = e + 1 → ∀ c, c < cN q → isMv q p c = true → F s b (a ||| b5 (p5 q c)) (zI e) (zI ((1 - g : Nat) : Int)) = some (if ((1 - g : Nat) : Int) ≤ vvF q e (set1 p c (n % 2)) (n + 1) then 1 else 0)) : f_X5_reaches F s a b (zI d) (zI g) = some (if (g : Int) ≤ vvF q d p n then 1 else 0) := by
  have hq := h.1
  have hN := okC_n hq
  have hk := hP.2.1
  have hn : n ≤ cN q := by unfold okP at hk; omega
  obtain ⟨r, o1, o2⟩ := c_open h (hP.taken hq)
  unfold f_X5_reaches
  rw [o1, ob9]
  by_cases c1 : n = cN q
  · have hz : r = 0 := by
      rw [o2.zero hq]
      intro c hc
      cases e9 : isMv q p c with
      | false => rfl
      | true =>
        unfold okP at hk
        exact absurd (isMv_in e9).2 (nfree_0 (m := cN q) (by omega) c hc)
    rw [if_pos hz, c_r27 hg]
    unfold vvF
    rw [if_pos c1]
  · obtain ⟨c, m1, m2⟩ := mv_some hk (by omega)
    have hz : ¬ r = 0 := by
      intro g9
      have := (o2.zero hq).mp g9 c m1
      rw [this] at m2
      cases m2
    have ev : vvF q d p n = valF q d p n := by
      unfold vvF
      rw [if_neg c1]
    rw [if_neg hz, ev]
    cases d with
    | zero =>
      rw [if_pos (by decide), c_r27 hg]
      rfl
    | succ e =>
      rw [if_neg (by rw [zI_1, zI_lt (by omega) (by omega) (by omega) (by omega)]; omega), if_pos (by rw [zI_5, zI_le (by omega) (by omega) (by omega) (by omega)]; omega)]
      obtain ⟨k, k1, k2⟩ := c_compl h hP.2.2.1
      have hr := (o2.and hq k2).2
      rw [k1, ob9]
      by_cases c3 : k &&& r = 0
      · rw [if_pos c3]
        exact c_r68 hq (by omega) hg o2 hr (fun c h1 h2 h3 => by
          have := (hr.zero hq).mp c3 c h1
          rw [h2, h3] at this
          cases this) (hF e rfl)
      · rw [if_neg c3, h.2.2.2.2.2.1]
        cases hl : cL q with
        | true =>
          rw [if_neg (by decide)]
          exact c_r68 hq (by omega) hg o2 hr (fun c h1 h2 h3 => hl) (hF e rfl)
        | false =>
          rw [if_pos (by decide), if_pos]
          rw [valF_s, bestF_iff (by omega)]
          by_cases ex : ∃ c, c < cN q ∧ (isMv q p c && rowAt q p (n % 2) c) = true
          · obtain ⟨c, h1, h2⟩ := ex
            simp only [Bool.and_eq_true] at h2
            refine ⟨c, h1, h2.1, ?_⟩
            unfold mvF
            rw [if_pos h2.2, if_neg (by rw [hl]; decide)]
            omega
          · exfalso
            apply c3
            rw [hr.zero hq]
            intro c hc
            cases e9 : (isMv q p c && rowAt q p (n % 2) c) with
            | false => rfl
            | true => exact absurd ⟨c, hc, e9⟩ ex
theorem c_reaches {q : Cfg} {s : gS} (h : CB q s) : ∀ (d φ : Nat) (p : Nat → Nat) (n g : Nat) (a b : Int32), d < φ → d ≤ 5 → g ≤ 1 → PS q p n a b → f_X5_reaches_top φ s a b (zI d) (zI g) = some (if (g : Int) ≤ vvF q d p n then 1 else 0)
  | 0, φ, p, n, g, a, b, hf, hd, hg, hP => by
    obtain ⟨φ, rfl⟩ : ∃ m, φ = m + 1 := ⟨φ - 1, by omega⟩
    rw [f_X5_reaches_top]
    exact c_reach1 h hd hg hP (fun e he => by omega)
  | d + 1, φ, p, n, g, a, b, hf, hd, hg, hP => by
    obtain ⟨φ, rfl⟩ : ∃ m, φ = m + 1 := ⟨φ - 1, by omega⟩
    rw [f_X5_reaches_top]
    exact c_reach1 h hd hg hP (fun e he c hc hm => by
      have : d = e := by omega
      subst this
      exact c_reaches h d φ _ (n + 1) (1 - g) _ _ (by omega) (by omega) (by omega) (hP.next h.1 hm))
