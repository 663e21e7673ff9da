def PlS (q : Cfg) (v : Nat) (p : Nat → Nat) (r : Int) : Prop := (r = -1 ∧ ∀ l : List Nat, 1 ≤ l.length → l.length ≤ 4 → rcF q v l p false = false) ∨ (1 ≤ r ∧ r ≤ 4 ∧ (∃ l : List Nat, (l.length : Int) = r ∧ rcF q v l p false = true) ∧ ∀ l : List Nat, 1 ≤ l.length → (l.length : Int) < r → rcF q v l p false = false)
theorem PlS.uni {q : Cfg} {v : Nat} {p : Nat → Nat} {r r2 : Int} (h : PlS q v p r) (g : PlS q v p r2) : r = r2 := by
  rcases h with ⟨h1, h2⟩ | ⟨h1, h2, ⟨l, l1, l2⟩, h4⟩
  · rcases g with ⟨g1, g2⟩ | ⟨g1, g2, ⟨k, k1, k2⟩, g4⟩
    · omega
    · rw [h2 k (by omega) (by omega)] at k2
      cases k2
  · rcases g with ⟨g1, g2⟩ | ⟨g1, g2, ⟨k, k1, k2⟩, g4⟩
    · rw [g2 l (by omega) (by omega)] at l2
      cases l2
    · by_cases a : r < r2
      · rw [g4 l (by omega) (by omega)] at l2
        cases l2
      · by_cases b : r2 < r
        · rw [h4 k (by omega) (by omega)] at k2
          cases k2
        · omega
theorem nd_pos {q : Cfg} {p : Nat → Nat} {v t s : Nat} (hq : okC q) (h : GdL q p v t s) (hn : ¬ HL q v p) : ∃ c, c < cN q ∧ ndF q p v t s c = true := by
  by_cases g : ∃ j, j < cK q ∧ p (c5 q (s + j * t)) ≠ v
  · obtain ⟨j, j1, j2⟩ := g
    obtain ⟨k1, k2, -⟩ := c5_ok hq (h.2 j j1).1
    refine ⟨c5 q (s + j * t), k1, ndF_ne ?_⟩
    unfold neF lnF
    rw [Bool.and_eq_true, decide_eq_true_eq, decide_eq_true_eq]
    exact ⟨⟨j, j1, k2⟩, j2⟩
  · exfalso
    refine hn ⟨t, s, h.1, fun j hj => ⟨(h.2 j hj).1, ?_⟩⟩
    by_cases e : p (c5 q (s + j * t)) = v
    · exact e
    · exact absurd ⟨j, hj, e⟩ g
theorem few_PlS {q : Cfg} {p : Nat → Nat} {v f : Nat} (hq : okC q) (hp : ∀ j, p j ≤ 2) (hv : v ≤ 1) (hn : ¬ HL q v p) (h17 : f ≤ 17) (h1 : f = 17 ∨ ∃ t s', GdL q p v t s' ∧ f = cntF (ndF q p v t s') (cN q)) (h2 : ∀ t s', GdL q p v t s' → f ≤ cntF (ndF q p v t s') (cN q)) : PlS q v p (if 4 < f then -1 else (f : Int)) := by
  have hB : ∀ l : List Nat, l.length < f → rcF q v l p false = false := fun l hl => by
    cases e : rcF q v l p false with
    | false => rfl
    | true =>
      obtain ⟨t, s, g1, g2⟩ := plan_B hq hv e
      have := h2 t s g1
      omega
  by_cases c : 4 < f
  · rw [if_pos c]
    exact Or.inl ⟨rfl, fun l _ hl => hB l (by omega)⟩
  · rw [if_neg c]
    rcases h1 with h1 | ⟨t, s, g1, g2⟩
    · omega
    · obtain ⟨c0, c1, c2⟩ := nd_pos hq g1 hn
      have hpos : 1 ≤ cntF (ndF q p v t s) (cN q) := by
        by_cases z : cntF (ndF q p v t s) (cN q) = 0
        · have := cnt_zero z c0 c1
          rw [c2] at this
          cases this
        · omega
      obtain ⟨l, l1, l2⟩ := plan_A hq hp hv g1 ⟨c0, c2⟩
      exact Or.inr ⟨by omega, by omega, ⟨l, by omega, l2⟩, fun l' h3 h4 => hB l' (by omega)⟩
theorem c_planT {q : Cfg} {mv : Nat → Nat} {n D : Nat} {s : gS} (h : Cj q mv n D s) {a : Int} (ha : -2147483648 ≤ a ∧ a < 2147483648) : ∃ r : Int, f_X8_plan s (zI a) = some (zI r) ∧ (if (0 ≤ a ∧ a ≤ 1) ∧ winF q mv n = 3 then PlS q a.toNat (posF mv n) r else r = -1) := by
  have hn := h.1.n16
  unfold f_X8_plan
  by_cases c1 : a < 0
  · rw [if_pos (by rw [zI_0, zI_lt (by omega) (by omega) (by omega) (by omega)]; exact c1)]
    exact ⟨-1, by rw [zI_m1], by rw [if_neg (by omega)]⟩
  · rw [if_neg (by rw [zI_0, zI_lt (by omega) (by omega) (by omega) (by omega)]; exact c1)]
    by_cases c2 : 1 < a
    · rw [if_pos (by rw [zI_1, zI_lt (by omega) (by omega) (by omega) (by omega)]; exact c2)]
      exact ⟨-1, by rw [zI_m1], by rw [if_neg (by omega)]⟩
    · rw [if_neg (by rw [zI_1, zI_lt (by omega) (by omega) (by omega) (by omega)]; exact c2), h.1.2.1, c_ended h.1 (Nat.le_refl _), ob9]
      by_cases c3 : winF q mv n = 3
      · obtain ⟨v, rfl⟩ : ∃ v : Nat, a = (v : Int) := ⟨a.toNat, by omega⟩
        have hv : v ≤ 1 := by omega
        obtain ⟨x, x1, x2⟩ := c_stones h.1 hv (Nat.le_refl n)
        obtain ⟨y, y1, y2⟩ := c_stones h.1 (v := 1 - v) (by omega) (Nat.le_refl n)
        rw [if_pos c3, if_pos rfl, x1, ob9, zneg1 hv, y1, ob9]
        obtain ⟨f, f1, f2, f3, f4⟩ := c_few h.1.1 (posF_le mv n) hv x2 y2
        rw [f1, ob9]
        refine ⟨if 4 < f then -1 else (f : Int), ?_, ?_⟩
        · by_cases k : 4 < f
          · rw [if_pos (by rw [zI_4, zI_lt (by omega) (by omega) (by omega) (by omega)]; omega), if_pos k, zI_m1]
          · rw [if_neg (by rw [zI_4, zI_lt (by omega) (by omega) (by omega) (by omega)]; omega), if_neg k]
        · rw [if_pos ⟨by omega, c3⟩]
          exact few_PlS h.1.1.1 (posF_le mv n) hv (no_line h.1.1.1 hv n h.1.2.2.1 c3) f2 f3 f4
      · rw [if_neg c3, if_neg (by decide)]
        exact ⟨-1, by rw [zI_m1], by rw [if_neg (fun g => c3 g.2)]⟩
/-! THE MODEL's plan -/
def dlF (d : Nat → Nat) : Nat → Nat → List Nat
  | _, 0 => []
  | i, m + 1 => d i :: dlF d (i + 1) m
theorem dlF_len (d : Nat → Nat) : ∀ (m i : Nat), (dlF d i m).length = m
  | 0, i => rfl
  | m + 1, i => by rw [dlF, List.length_cons, dlF_len d m (i + 1)]
theorem dlF_sh (d : Nat → Nat) : ∀ (m i : Nat), dlF d (i + 1) m = dlF (fun j => d (j + 1)) i m
  | 0, i => rfl
  | m + 1, i => by rw [dlF, dlF, dlF_sh d m (i + 1)]
def dgF (N : Nat) : Nat → Nat → Nat
  | code, 0 => code % N
  | code, j + 1 => dgF N (code / N) j
theorem dgF_lt {N : Nat} (hN : 0 < N) : ∀ (j code : Nat), dgF N code j < N
  | 0, code => Nat.mod_lt _ hN
  | j + 1, code => dgF_lt hN j (code / N)
def enF (N : Nat) : List Nat → Nat
  | [] => 0
  | x :: r => x + N * enF N r
theorem en_ok {N : Nat} : ∀ (l : List Nat), (∀ x ∈ l, x < N) → enF N l < N ^ l.length ∧ dlF (dgF N (enF N l)) 0 l.length = l
  | [], _ => ⟨by rw [enF]; exact Nat.one_pos, rfl⟩
  | x :: r, h => by
    have hx : x < N := h x List.mem_cons_self
    obtain ⟨h1, h2⟩ := en_ok r (fun y hy => h y (List.mem_cons_of_mem _ hy))
    have e1 : (x + N * enF N r) % N = x := by rw [Nat.add_mul_mod_self_left, Nat.mod_eq_of_lt hx]
    have e2 : (x + N * enF N r) / N = enF N r := by rw [Nat.add_mul_div_left _ _ (by omega), Nat.div_eq_of_lt hx, Nat.zero_add]
    constructor
    · have h3 : N * (enF N r + 1) ≤ N * N ^ r.length := Nat.mul_le_mul_left N h1
      rw [Nat.mul_add, Nat.mul_one] at h3
      rw [enF, List.length_cons, Nat.pow_succ, Nat.mul_comm (N ^ r.length)]
      omega
    · rw [enF, List.length_cons, dlF, dlF_sh]
      show (x + N * enF N r) % N :: dlF (dgF N ((x + N * enF N r) / N)) 0 r.length = _
      rw [e1, e2, h2]
theorem rc_lt {q : Cfg} {v : Nat} : ∀ (l : List Nat) (p : Nat → Nat) (b : Bool), rcF q v l p b = true → ∀ x ∈ l, x < cN q
  | [], p, b, _, x, hx => by cases hx
  | y :: r, p, b, h, x, hx => by
    rw [rcF, Bool.and_eq_true] at h
    rcases List.mem_cons.1 hx with e | e
    · rw [e]
      exact (isMv_in h.1).1
    · exact rc_lt r _ _ h.2 x e
theorem m_reach56 {q : Cfg} {v k i c : Nat} {x3 x4 x5 x6 x7 : Int32} {p : Nat → Nat} {b : Bool} {s : gS} {K : gS → Int32 → Int32 → Int32 → Int32 → Int32 → Int32 → Int32 → Int32 → Int32 → Option (Int32 × gS)} {L : List Nat} (hq : okC q) (hv : v ≤ 1) (hs : MS q s) (hp : StB s p) (hc : c < cN q) (hK : ∀ s2 y7, MS q s2 → StB s2 (set1 p c v) → ∃ u, K s2 (zI v) (zI k) x3 x4 x5 x6 y7 (zI (bI (rowAt q p v c))) (zI ((i + 1 : Nat) : Int)) = some (zI (bI (rcF q v L (set1 p c v) (rowAt q p v c))), u)) : ∃ u, f_X9_reaches_56 K s (zI v) (zI k) x3 x4 x5 x6 x7 (zI i) (zI c) = some (zI (bI (rcF q v (c :: L) p b)), u) := by
  have hN := okC_n hq
  unfold f_X9_reaches_56
  rw [m_isMove hq hs hp (by omega), ob9, rcF, if10]
  by_cases e : isMv q p c = true
  · rw [if_pos ⟨by omega, by rw [Int.toNat_natCast]; exact e⟩, if_pos (zin (by omega) (by omega)), zcl (by omega)]
    have hs2 : MS q (sa s 22 c (zI v)) := hs
    have hp2 := hp.set (c := c) (v := v) (by omega)
    rw [m_makesRow hq hs2 hp2 (by omega) hc, ob9, rowAt_set, zsuc, e, Bool.true_and]
    obtain ⟨u, u1⟩ := hK (sa s 22 c (zI v)) (x7 + 1) hs2 hp2
    refine ⟨u, ?_⟩
    rw [← u1]
    congr 1
    cases rowAt q p v c <;> rfl
  · rw [if_neg (fun g => e (by have := g.2; rw [Int.toNat_natCast] at this; exact this))]
    have e2 : isMv q p c = false := by
      cases g : isMv q p c with
      | false => rfl
      | true => exact absurd g e
    rw [e2, Bool.false_and]
    exact ⟨s, rfl⟩
theorem m_reach1 {q : Cfg} {v k : Nat} {d : Nat → Nat} (hq : okC q) (hv : v ≤ 1) (hk : k ≤ 4) (hd : ∀ j, d j < cN q) : ∀ (m i φ : Nat) (p : Nat → Nat) (b : Bool) (s : gS) (x7 : Int32), i + m = k → m < φ → MS q s → StB s p → ∃ u, f_X9_reaches_17 φ s (zI v) (zI k) (zI (d 0)) (zI (d 1)) (zI (d 2)) (zI (d 3)) x7 (zI (bI b)) (zI i) = some (zI (bI (rcF q v (dlF d i m) p b)), u)
  | 0, i, φ, p, b, s, x7, hi, hf, hs, hp => by
    obtain ⟨φ, rfl⟩ : ∃ m, φ = m + 1 := ⟨φ - 1, by omega⟩
    have hb := bI_le b
    rw [f_X9_reaches_17, if_pos (by rw [zI_le (by omega) (by omega) (by omega) (by omega)]; omega), if_pos (by rw [zI_isZ (by omega) (by omega), decide_eq_true_eq]; omega)]
    exact ⟨s, rfl⟩
  | m + 1, i, φ, p, b, s, x7, hi, hf, hs, hp => by
    obtain ⟨φ, rfl⟩ : ∃ m, φ = m + 1 := ⟨φ - 1, by omega⟩
    have key := m_reach56 (k := k) (i := i) (c := d i) (x3 := zI (d 0)) (x4 := zI (d 1)) (x5 := zI (d 2)) (x6 := zI (d 3)) (x7 := x7) (b := b) (K := f_X9_reaches_17 φ) (L := dlF d (i + 1) m) hq hv hs hp (hd i) (fun s2 y7 a1 a2 => m_reach1 hq hv hk hd m (i + 1) φ _ _ s2 y7 (by omega) (by omega) a1 a2)
    rw [f_X9_reaches_17, if_neg (by rw [zI_le (by omega) (by omega) (by omega) (by omega)]; omega), dlF]
    rcases (show i = 0 ∨ i = 1 ∨ i = 2 ∨ i = 3 by omega) with rfl | rfl | rfl | rfl
    · rw [if_pos (by decide)]
      exact key
    · rw [if_neg (by decide), if_pos (by decide)]
      exact key
    · rw [if_neg (by decide), if_neg (by decide), if_pos (by decide)]
      exact key
    · rw [if_neg (by decide), if_neg (by decide), if_neg (by decide)]
      exact key
theorem m_reach {q : Cfg} {mv : Nat → Nat} {n D v k : Nat} {d : Nat → Nat} {s : gS} (h : Mg q mv n D s) (hv : v ≤ 1) (hk : k ≤ 4) (hd : ∀ j, d j < cN q) : ∃ u, f_X9_reaches s (zI v) (zI k) (zI (d 0)) (zI (d 1)) (zI (d 2)) (zI (d 3)) = some (zI (bI (rcF q v (dlF d 0 k) (posF mv n) false)), u) ∧ Kp [27, 28] [22] s u := by
  obtain ⟨g, hg⟩ := gf_big
  obtain ⟨t, t1, t2, -, -, t5⟩ := h.up (Nat.le_refl n)
  have hk2 := (h.kp t5 (by decide)).2.1
  obtain ⟨u, u1⟩ := m_reach1 (d := d) h.1 hv hk hd k 0 gφ (posF mv n) false t 0 (by omega) (by omega) hk2 t2
  have e : f_X9_reaches s (zI v) (zI k) (zI (d 0)) (zI (d 1)) (zI (d 2)) (zI (d 3)) = some (zI (bI (rcF q v (dlF d 0 k) (posF mv n) false)), u) := by
    unfold f_X9_reaches
    rw [h.2.2.1, t1, ob9]
    exact u1
  exact ⟨u, e, fr_X9_reaches _ _ _ _ _ _ _ _ e⟩
theorem m_rows1 {q : Cfg} {s : gS} {k : Nat} (hs : MS q s) (hk : k ≤ 4) : ∀ (m i φ : Nat), i + m = k → m < φ → f_X9_rowsOf_4 φ s (zI k) (zI ((cN q ^ i : Nat) : Int)) (zI i) = some (zI ((cN q ^ k : Nat) : Int))
  | 0, i, φ, hi, hf => by
    obtain ⟨φ, rfl⟩ : ∃ m, φ = m + 1 := ⟨φ - 1, by omega⟩
    rw [f_X9_rowsOf_4, if_pos (by rw [zI_le (by omega) (by omega) (by omega) (by omega)]; omega), show i = k by omega]
  | m + 1, i, φ, hi, hf => by
    obtain ⟨φ, rfl⟩ : ∃ m, φ = m + 1 := ⟨φ - 1, by omega⟩
    have e : zI ((cN q ^ i : Nat) : Int) * zI (cW q) * zI (cH q) = zI ((cN q ^ (i + 1) : Nat) : Int) := by
      rw [zI_mul, zI_mul]
      refine zI_c ?_
      rw [Nat.pow_succ, Int.natCast_mul, Int.mul_assoc]
      congr 1
    rw [f_X9_rowsOf_4, if_neg (by rw [zI_le (by omega) (by omega) (by omega) (by omega)]; omega), hs.1, hs.2.1, e, zsuc]
    exact m_rows1 hs hk m (i + 1) φ (by omega) (by omega)
theorem m_rows {q : Cfg} {s : gS} {k : Nat} (hs : MS q s) (hk : k ≤ 4) : f_X9_rowsOf s (zI k) = some (zI ((cN q ^ k : Nat) : Int)) := by
  obtain ⟨g, hg⟩ := gf_big
  have h := m_rows1 hs hk k 0 gφ (by omega) (by omega)
  rw [Nat.pow_zero] at h
  exact h
theorem nk_le {q : Cfg} {k : Nat} (hq : okC q) (hk : k ≤ 4) : cN q ^ k ≤ 65536 := by
  have hN := okC_n hq
  have h1 : cN q ^ k ≤ 16 ^ k := Nat.pow_le_pow_left (by omega) k
  have h2 : 16 ^ k ≤ 16 ^ 4 := Nat.pow_le_pow_right (by omega) hk
  have h3 : (16 : Nat) ^ 4 = 65536 := by decide
  omega
theorem m_plan49 {q : Cfg} {mv : Nat → Nat} {n D v k : Nat} {K : gS → Int32 → Int32 → Int32 → Option (Int32 × gS)} (hv : v ≤ 1) (hk : k ≤ 4) : ∀ (m code φ : Nat) (s : gS), code + m = cN q ^ k → m < φ → Mg q mv n D s → (∃ u, f_X9_plan_49 K φ s (zI v) (zI (cN q)) (zI k) (zI code) = some (zI k, u) ∧ ∃ l : List Nat, l.length = k ∧ rcF q v l (posF mv n) false = true) ∨ (∃ u, f_X9_plan_49 K φ s (zI v) (zI (cN q)) (zI k) (zI code) = K u (zI v) (zI (cN q)) (zI ((k + 1 : Nat) : Int)) ∧ Kp [27, 28] [22] s u ∧ ∀ c2, code ≤ c2 → c2 < cN q ^ k → rcF q v (dlF (dgF (cN q) c2) 0 k) (posF mv n) false = false)
  | 0, code, φ, s, hc, hf, h => by
    obtain ⟨φ, rfl⟩ : ∃ m, φ = m + 1 := ⟨φ - 1, by omega⟩
    have hN := okC_n h.1
    have hP := nk_le h.1 hk
    right
    rw [f_X9_plan_49, m_rows h.2.1 hk, ob9, if_pos (by rw [zI_le (by omega) (by omega) (by omega) (by omega)]; omega), zsuc]
    exact ⟨s, rfl, Kp.rf, fun c2 h1 h2 => by omega⟩
  | m + 1, code, φ, s, hc, hf, h => by
    obtain ⟨φ, rfl⟩ : ∃ m, φ = m + 1 := ⟨φ - 1, by omega⟩
    have hN := okC_n h.1
    have hP := nk_le h.1 hk
    have d1 : code / cN q ≤ code := Nat.div_le_self _ _
    have d2 : code / cN q / cN q ≤ code / cN q := Nat.div_le_self _ _
    have d3 : code / cN q / cN q / cN q ≤ code / cN q / cN q := Nat.div_le_self _ _
    have z1 : nz (zI (cN q : Int)) = true := by
      rw [zI_nz (by omega) (by omega), decide_eq_true_eq]
      omega
    rw [f_X9_plan_49, m_rows h.2.1 hk, ob9, if_neg (by rw [zI_le (by omega) (by omega) (by omega) (by omega)]; omega)]
    simp only [z1, ↓reduceIte]
    rw [zrem (n := code) (d := cN q) (by omega) (by omega) (by omega), zquo (n := code) (d := cN q) (by omega) (by omega) (by omega)]
    generalize hA : code / cN q = A at *
    rw [zrem (n := A) (d := cN q) (by omega) (by omega) (by omega), zquo (n := A) (d := cN q) (by omega) (by omega) (by omega)]
    generalize hB : A / cN q = B at *
    rw [zrem (n := B) (d := cN q) (by omega) (by omega) (by omega), zquo (n := B) (d := cN q) (by omega) (by omega) (by omega)]
    generalize hC : B / cN q = C at *
    rw [zrem (n := C) (d := cN q) (by omega) (by omega) (by omega)]
    obtain ⟨u, u1, u2⟩ := m_reach (d := dgF (cN q) code) h hv hk (fun j => dgF_lt (by omega) j code)
    have g0 : dgF (cN q) code 0 = code % cN q := rfl
    have g1 : dgF (cN q) code 1 = A % cN q := by rw [← hA]; rfl
    have g2 : dgF (cN q) code 2 = B % cN q := by rw [← hB, ← hA]; rfl
    have g3 : dgF (cN q) code 3 = C % cN q := by rw [← hC, ← hB, ← hA]; rfl
    rw [g0, g1, g2, g3] at u1
    rw [u1, ob9]
    cases e : rcF q v (dlF (dgF (cN q) code) 0 k) (posF mv n) false with
    | true =>
      left
      show ∃ u_1, (if zI (bI true) = 0 then _ else some (zI (k : Int), u)) = some (zI (k : Int), u_1) ∧ _
      rw [if_neg (by decide)]
      exact ⟨u, rfl, _, dlF_len _ _ _, e⟩
    | false =>
      show (∃ u_1, (if zI (bI false) = 0 then f_X9_plan_49 K φ u (zI v) (zI (cN q)) (zI k) (zI (code : Int) + 1) else some (zI (k : Int), u)) = some (zI (k : Int), u_1) ∧ _) ∨ (∃ u_1, (if zI (bI false) = 0 then f_X9_plan_49 K φ u (zI v) (zI (cN q)) (zI k) (zI (code : Int) + 1) else some (zI (k : Int), u)) = _ ∧ _)
      rw [if_pos (by decide), zsuc]
      rcases m_plan49 (K := K) hv hk m (code + 1) φ u (by omega) (by omega) (h.kp u2 (by decide)) with a | ⟨w, w1, w2, w3⟩
      · exact Or.inl a
      · refine Or.inr ⟨w, w1, u2.tr w2, fun c2 h1 h2 => ?_⟩
        by_cases g : c2 = code
        · rw [g]; exact e
        · exact w3 c2 (by omega) h2
theorem m_plan41 {q : Cfg} {mv : Nat → Nat} {n D v : Nat} (hv : v ≤ 1) : ∀ (m k φ : Nat) (s : gS), k + m = 5 → 1 ≤ k → m < φ → Mg q mv n D s → (∀ l : List Nat, 1 ≤ l.length → l.length < k → rcF q v l (posF mv n) false = false) → ∃ (r : Int) (u : gS), f_X9_plan_41 φ s (zI v) (zI (cN q)) (zI k) = some (zI r, u) ∧ PlS q v (posF mv n) r
  | 0, k, φ, s, hk, h1, hf, h, hl => by
    obtain ⟨φ, rfl⟩ : ∃ m, φ = m + 1 := ⟨φ - 1, by omega⟩
    rw [f_X9_plan_41, if_pos (by rw [zI_4, zI_lt (by omega) (by omega) (by omega) (by omega)]; omega)]
    exact ⟨-1, s, by rw [zI_m1], Or.inl ⟨rfl, fun l h2 h3 => hl l h2 (by omega)⟩⟩
  | m + 1, k, φ, s, hk, h1, hf, h, hl => by
    obtain ⟨φ, rfl⟩ : ∃ m, φ = m + 1 := ⟨φ - 1, by omega⟩
    obtain ⟨g, hg⟩ := gf_big
    have hP := nk_le (k := k) h.1 (by omega)
    rw [f_X9_plan_41, if_neg (by rw [zI_4, zI_lt (by omega) (by omega) (by omega) (by omega)]; omega)]
    have key := m_plan49 (K := f_X9_plan_41 φ) (k := k) hv (by omega) (cN q ^ k) 0 gφ s (by omega) (by omega) h
    rw [z00] at key
    rcases key with ⟨u, u1, l, l1, l2⟩ | ⟨u, u1, u2, u3⟩
    · rw [u1]
      exact ⟨(k : Int), u, rfl, Or.inr ⟨by omega, by omega, ⟨l, by omega, l2⟩, fun l' h2 h3 => hl l' h2 (by omega)⟩⟩
    · rw [u1]
      refine m_plan41 hv m (k + 1) φ u (by omega) (by omega) (by omega) (h.kp u2 (by decide)) (fun l h2 h3 => ?_)
      by_cases e : l.length = k
      · cases e2 : rcF q v l (posF mv n) false with
        | false => rfl
        | true =>
          obtain ⟨a1, a2⟩ := en_ok l (rc_lt l _ _ e2)
          rw [e] at a1 a2
          have := u3 _ (by omega) a1
          rw [a2, e2] at this
          cases this
      · exact hl l h2 (by omega)
theorem m_plan {q : Cfg} {mv : Nat → Nat} {n D : Nat} {s : gS} (h : Mg q mv n D s) {a : Int} (ha : -2147483648 ≤ a ∧ a < 2147483648) : ∃ (r : Int) (u : gS), f_X9_plan s (zI a) = some (zI r, u) ∧ (if (0 ≤ a ∧ a ≤ 1) ∧ winF q mv n = 3 then PlS q a.toNat (posF mv n) r else r = -1) := by
  unfold f_X9_plan
  rw [zI_0, zI_1, m_in ha (by omega) (by omega), ob9]
  by_cases c1 : 0 ≤ a ∧ a ≤ 1
  · rw [if_pos c1, if_neg (by decide), h.2.2.1]
    obtain ⟨t, t1, t2, t3, t4, t5⟩ := h.up (Nat.le_refl n)
    have h2 := h.kp t5 (by decide)
    have hw := winF_le q mv n
    obtain ⟨g, hg⟩ := gf_big
    rw [t1, ob9, t4, h2.2.1.1, h2.2.1.2.1, cN_z]
    by_cases c2 : winF q mv n = 3
    · rw [if_pos (by rw [c2]; rfl)]
      obtain ⟨v, rfl⟩ : ∃ v : Nat, a = (v : Int) := ⟨a.toNat, by omega⟩
      obtain ⟨r, u, u1, u2⟩ := m_plan41 (v := v) (by omega) 4 1 gφ t (by omega) (by omega) (by omega) h2 (fun l h3 h4 => by omega)
      exact ⟨r, u, u1, by rw [if_pos ⟨c1, c2⟩]; exact u2⟩
    · rw [if_neg (by rw [zI_3, zI_eq (by omega) (by omega) (by omega) (by omega)]; omega)]
      exact ⟨-1, t, by rw [zI_neg], by rw [if_neg (fun g => c2 g.2)]⟩
  · rw [if_neg c1, if_pos zI_0]
    exact ⟨-1, s, by rw [zI_neg], by rw [if_neg (fun g => c1 g.1)]⟩
