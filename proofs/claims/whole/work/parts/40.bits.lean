/-! BITS of an int -/
def bt (m : Int32) (i : Nat) : Bool := m.toBitVec.getLsbD i
theorem bt_and (a b : Int32) (i : Nat) : bt (a &&& b) i = (bt a i && bt b i) := by
  show (a.toBitVec &&& b.toBitVec).getLsbD i = _
  rw [BitVec.getLsbD_and]
  rfl
theorem bt_or (a b : Int32) (i : Nat) : bt (a ||| b) i = (bt a i || bt b i) := by
  show (a.toBitVec ||| b.toBitVec).getLsbD i = _
  rw [BitVec.getLsbD_or]
  rfl
theorem bt_xor (a b : Int32) (i : Nat) : bt (a ^^^ b) i = (bt a i ^^ bt b i) := by
  show (a.toBitVec ^^^ b.toBitVec).getLsbD i = _
  rw [BitVec.getLsbD_xor]
  rfl
theorem bt_m1 (i : Nat) : bt (-1) i = decide (i < 32) := by
  show (BitVec.allOnes 32).getLsbD i = _
  rw [BitVec.getLsbD_allOnes]
theorem bt_ge {a : Int32} {i : Nat} (h : 32 ≤ i) : bt a i = false := BitVec.getLsbD_of_ge _ _ h
theorem bt_not {a : Int32} {i : Nat} (h : i < 32) : bt (a ^^^ (-1 : Int32)) i = !bt a i := by
  rw [bt_xor, bt_m1, decide_eq_true h]
  cases bt a i <;> rfl
theorem bt_ext {a b : Int32} (h : ∀ i, i < 32 → bt a i = bt b i) : a = b := Int32.toBitVec_inj.1 (BitVec.eq_of_getLsbD_eq (fun i hi => h i hi))
theorem bt_0 (i : Nat) : bt 0 i = false := by
  show (0#32).getLsbD i = false
  simp
theorem shl_amt : ∀ j : Fin 32, ((zI (j.val : Int) &&& 31).toBitVec.smod 32).toNat = j.val := by decide
theorem ushr_amt : ∀ j : Fin 32, (((zI (j.val : Int)).toUInt32 &&& Int32.toUInt32 31).toBitVec % 32).toNat = j.val := by decide
theorem bt_shl (a : Int32) {j : Nat} (hj : j < 32) (i : Nat) : bt (a <<< (zI (j : Int) &&& 31)) i = (decide (i < 32) && !decide (i < j) && bt a (i - j)) := by
  show (a.toBitVec <<< ((zI (j : Int) &&& 31).toBitVec.smod 32)).getLsbD i = _
  rw [BitVec.shiftLeft_eq', shl_amt ⟨j, hj⟩, BitVec.getLsbD_shiftLeft]
  rfl
theorem bt_ushr (a : Int32) {j : Nat} (hj : j < 32) (i : Nat) : bt ((a.toUInt32 >>> ((zI (j : Int)).toUInt32 &&& Int32.toUInt32 31)).toInt32) i = bt a (j + i) := by
  show (a.toBitVec >>> (((zI (j : Int)).toUInt32 &&& Int32.toUInt32 31).toBitVec % 32)).getLsbD i = _
  rw [BitVec.ushiftRight_eq', ushr_amt ⟨j, hj⟩, BitVec.getLsbD_ushiftRight]
  rfl
theorem bt_1 (i : Nat) : bt 1 i = decide (i = 0) := by
  show (1#32).getLsbD i = _
  simp [BitVec.getLsbD_one]
def b5 (j : Nat) : Int32 := 1 <<< (zI (j : Int) &&& 31)
theorem bt_b5 {j : Nat} (hj : j < 32) (i : Nat) : bt (b5 j) i = decide (i = j) := by
  unfold b5
  rw [bt_shl _ hj, bt_1]
  by_cases e : i = j
  · subst e
    simp [hj]
  · by_cases e2 : i < j
    · simp [e, e2]
    · have : ¬ i - j = 0 := by omega
      simp [e, this]
theorem bt_ex {m : Int32} (h : m ≠ 0) : ∃ i, i < 32 ∧ bt m i = true := by
  by_cases g : ∃ i, i < 32 ∧ bt m i = true
  · exact g
  · exfalso
    apply h
    apply bt_ext
    intro i hi
    rw [bt_0]
    cases e : bt m i with
    | false => rfl
    | true => exact absurd ⟨i, hi, e⟩ g
/-! THE CLASS's board: a cell's bit -/
def inBd (q : Cfg) (i : Nat) : Bool := decide (i % 5 < cW q ∧ i / 5 < cH q)
def p5 (q : Cfg) (c : Nat) : Nat := 5 * (c / cW q) + c % cW q
def c5 (q : Cfg) (i : Nat) : Nat := cW q * (i / 5) + i % 5
def CB (q : Cfg) (s : gS) : Prop := okC q ∧ s.1 0 = zI (cW q) ∧ s.1 1 = zI (cH q) ∧ s.1 2 = zI (cK q) ∧ s.1 3 = zI (bI (cG q)) ∧ s.1 4 = zI (bI (cL q)) ∧ (∀ i, bt (s.1 5) i = inBd q i) ∧ ∀ i, bt (s.1 6) i = decide (i < cW q)
/-- a set of cells by its bits -/
def Mk (q : Cfg) (f : Nat → Bool) (m : Int32) : Prop := ∀ i, bt m i = (inBd q i && f (c5 q i))
theorem p5_ok {q : Cfg} (hq : okC q) {c : Nat} (hc : c < cN q) : inBd q (p5 q c) = true ∧ c5 q (p5 q c) = c ∧ p5 q c < 19 ∧ p5 q c % 5 = c % cW q ∧ p5 q c / 5 = c / cW q := by
  obtain ⟨x1, x2, x3⟩ := cell_xy hq hc
  obtain ⟨q1, q2, q3, q4, -⟩ := hq
  have e1 : p5 q c % 5 = c % cW q := by
    unfold p5
    omega
  have e2 : p5 q c / 5 = c / cW q := by
    unfold p5
    omega
  refine ⟨?_, ?_, ?_, e1, e2⟩
  · unfold inBd
    rw [decide_eq_true_eq, e1, e2]
    exact ⟨x1, x2⟩
  · unfold c5
    rw [e1, e2]
    exact x3
  · unfold p5
    omega
theorem c5_ok {q : Cfg} (hq : okC q) {i : Nat} (hi : inBd q i = true) : c5 q i < cN q ∧ p5 q (c5 q i) = i ∧ i < 19 := by
  have h := (of_decide_eq_true hi : _ ∧ _)
  obtain ⟨q1, q2, q3, q4, -⟩ := hq
  have e1 : c5 q i % cW q = i % 5 := by
    unfold c5
    rw [Nat.mul_add_mod, Nat.mod_eq_of_lt h.1]
  have e2 : c5 q i / cW q = i / 5 := by
    unfold c5
    rw [Nat.mul_add_div (by omega), Nat.div_eq_of_lt h.1, Nat.add_zero]
  refine ⟨?_, ?_, by omega⟩
  · unfold c5 cN
    have h1 : cW q * (i / 5) + cW q ≤ cW q * cH q := by
      rw [← Nat.mul_succ]
      exact Nat.mul_le_mul_left _ h.2
    omega
  · unfold p5
    rw [e1, e2]
    omega
theorem Mk.bit {q : Cfg} {f : Nat → Bool} {m : Int32} (hq : okC q) (h : Mk q f m) {c : Nat} (hc : c < cN q) : bt m (p5 q c) = f c := by
  obtain ⟨h1, h2, -⟩ := p5_ok hq hc
  rw [h, h1, h2]
  rfl
theorem Mk.eq {q : Cfg} {f g : Nat → Bool} {m : Int32} (hq : okC q) (h : Mk q f m) (he : ∀ c, c < cN q → f c = g c) : Mk q g m := fun i => by
  rw [h i]
  cases e : inBd q i with
  | false => rfl
  | true => rw [he _ (c5_ok hq e).1]
theorem Mk.zero {q : Cfg} {f : Nat → Bool} {m : Int32} (hq : okC q) (h : Mk q f m) : m = 0 ↔ ∀ c, c < cN q → f c = false := by
  constructor
  · intro e c hc
    rw [← h.bit hq hc, e, bt_0]
  · intro g
    apply bt_ext
    intro i hi
    rw [bt_0, h i]
    cases e : inBd q i with
    | false => rfl
    | true => rw [g _ (c5_ok hq e).1]; rfl
theorem Mk.and {q : Cfg} {f : Nat → Bool} {m x : Int32} {g : Nat → Bool} (hq : okC q) (h : Mk q f m) (hx : ∀ c, c < cN q → bt x (p5 q c) = g c) : Mk q (fun c => f c && g c) (m &&& x) ∧ Mk q (fun c => f c && g c) (x &&& m) := by
  have key : ∀ i, (bt m i && bt x i) = (inBd q i && (f (c5 q i) && g (c5 q i))) := by
    intro i
    rw [h i]
    cases e : inBd q i with
    | false => rfl
    | true =>
      obtain ⟨h1, h2, -⟩ := c5_ok hq e
      have h3 := hx _ h1
      rw [h2] at h3
      rw [h3]
      rfl
  exact ⟨fun i => by rw [bt_and, key], fun i => by rw [bt_and, Bool.and_comm, key]⟩
theorem Mk.or {q : Cfg} {f g : Nat → Bool} {m x : Int32} (h : Mk q f m) (hx : Mk q g x) : Mk q (fun c => f c || g c) (m ||| x) := fun i => by
  rw [bt_or, h i, hx i]
  cases inBd q i <;> rfl
/-- which moves there are -/
theorem c_open {q : Cfg} {s : gS} {p : Nat → Nat} {t : Int32} (h : CB q s) (ht : Mk q (fun c => decide (p c ≠ 2)) t) : ∃ m, f_X0_openCells s t = some m ∧ Mk q (isMv q p) m := by
  obtain ⟨hq, h0, h1, h2, h3, h4, h5, h6⟩ := h
  obtain ⟨q1, q2, q3, q4, -⟩ := id hq
  unfold f_X0_openCells
  rw [h3]
  have hfree : ∀ i, bt (s.1 5 &&& (t ^^^ (-1 : Int32))) i = (inBd q i && decide (p (c5 q i) = 2)) := by
    intro i
    rw [bt_and, h5]
    cases e : inBd q i with
    | false => rfl
    | true =>
      rw [bt_not (by have := (c5_ok hq e).2.2; omega), ht i, e]
      by_cases e2 : p (c5 q i) = 2
      · simp [e2]
      · simp [e2]
  cases hg : cG q with
  | false =>
    rw [if_pos (by decide)]
    refine ⟨_, rfl, fun i => ?_⟩
    rw [hfree]
    cases e : inBd q i with
    | false => rfl
    | true =>
      have hc := (c5_ok hq e).1
      unfold isMv
      rw [hg]
      by_cases e2 : p (c5 q i) = 2
      · simp [e2, hc]
      · simp [e2]
  | true =>
    rw [if_neg (by decide)]
    refine ⟨_, rfl, fun i => ?_⟩
    rw [bt_and, hfree, bt_or, show (5 : Int32) = zI ((5 : Nat) : Int) from zI_5, bt_shl _ (by omega), h6]
    cases e : inBd q i with
    | false => rfl
    | true =>
      obtain ⟨hc, hp, hi⟩ := c5_ok hq e
      have hin := (of_decide_eq_true e : _ ∧ _)
      unfold isMv
      rw [hg]
      by_cases e2 : p (c5 q i) = 2
      · by_cases e3 : i < 5
        · have e4 : i < cW q := by omega
          have e5 : c5 q i < cW q := by
            unfold c5
            have : i / 5 = 0 := by omega
            rw [this]
            omega
          simp [e2, hc, e4, e5]
        · have e4 : ¬ i < cW q := by omega
          have e5 : ¬ c5 q i < cW q := by
            unfold c5
            have : 1 ≤ i / 5 := by omega
            have h9 : cW q * 1 ≤ cW q * (i / 5) := Nat.mul_le_mul_left _ this
            omega
          have e6 : inBd q (i - 5) = true := by
            unfold inBd
            rw [decide_eq_true_eq]
            omega
          have e7 : c5 q (i - 5) = c5 q i - cW q := by
            unfold c5
            obtain ⟨y, hy⟩ : ∃ y, i / 5 = y + 1 := ⟨i / 5 - 1, by omega⟩
            have hy2 : (i - 5) / 5 = y := by omega
            have hy3 : (i - 5) % 5 = i % 5 := by omega
            rw [hy, hy2, hy3, Nat.mul_succ]
            omega
          rw [ht (i - 5), e6, e7]
          have hi32 : i < 32 := by omega
          simp [e2, hc, e3, e4, e5, hi32]
      · simp [e2]
