/-! THE CLASS's match: the moves by their bits -/
theorem zand_1 : ∀ n : Fin 64, zI ((n.val : Nat) : Int) &&& 1 = zI ((n.val % 2 : Nat) : Int) := by decide +kernel
theorem zand1 {n : Nat} (h : n < 64) : zI (n : Int) &&& 1 = zI ((n % 2 : Nat) : Int) := zand_1 ⟨n, h⟩
theorem zneg1 {n : Nat} (h : n ≤ 1) : (1 : Int32) - zI (n : Int) = zI ((1 - n : Nat) : Int) := by rw [zI_1, zI_sub]; exact zI_c (by omega)
def rsF (w : Nat) : Nat := if w = 3 then 0 else w + 1
def Cg (q : Cfg) (mv : Nat → Nat) (n D : Nat) (s : gS) : Prop := CB q s ∧ s.1 7 = zI n ∧ okM q mv n ∧ (∀ i, i < n → s.2 0 i = b5 (p5 q (mv i))) ∧ s.1 8 = zI (rsF (winF q mv n)) ∧ s.1 9 = zI D ∧ 1 ≤ D ∧ D ≤ 4
theorem CB.kp {q : Cfg} {s t : gS} {ks as : List Nat} (h : CB q s) (hk : Kp ks as s t) (hd : 0 ∉ ks ∧ 1 ∉ ks ∧ 2 ∉ ks ∧ 3 ∉ ks ∧ 4 ∉ ks ∧ 5 ∉ ks ∧ 6 ∉ ks) : CB q t := by
  unfold CB
  rw [hk.1 0 hd.1, hk.1 1 hd.2.1, hk.1 2 hd.2.2.1, hk.1 3 hd.2.2.2.1, hk.1 4 hd.2.2.2.2.1, hk.1 5 hd.2.2.2.2.2.1, hk.1 6 hd.2.2.2.2.2.2]
  exact h
theorem Cg.kp {q : Cfg} {mv : Nat → Nat} {n D : Nat} {s t : gS} {ks as : List Nat} (h : Cg q mv n D s) (hk : Kp ks as s t) (hd : (0 ∉ ks ∧ 1 ∉ ks ∧ 2 ∉ ks ∧ 3 ∉ ks ∧ 4 ∉ ks ∧ 5 ∉ ks ∧ 6 ∉ ks) ∧ 7 ∉ ks ∧ 8 ∉ ks ∧ 9 ∉ ks ∧ 0 ∉ as) : Cg q mv n D t := by
  obtain ⟨h1, h2, h3, h4, h5, h6, h7⟩ := h
  exact ⟨h1.kp hk hd.1, (hk.1 7 hd.2.1).trans h2, h3, fun i hi => by rw [hk.2 0 hd.2.2.2.2]; exact h4 i hi, (hk.1 8 hd.2.2.1).trans h5, (hk.1 9 hd.2.2.2.1).trans h6, h7⟩
theorem Cg.n16 {q : Cfg} {mv : Nat → Nat} {n D : Nat} {s : gS} (h : Cg q mv n D s) : n ≤ cN q ∧ cN q ≤ 16 := ⟨okM_n h.2.2.1, (okC_n h.1.1).2⟩
theorem c_bitMv {q : Cfg} {mv : Nat → Nat} {n D : Nat} {s : gS} (h : Cg q mv n D s) {a : Int} (ha : -2147483648 ≤ a ∧ a < 2147483648) : f_X3_bitOfMove s (zI a) = some (if 1 ≤ a ∧ a ≤ n then b5 (p5 q (mv (a.toNat - 1))) else 0) := by
  have hn := h.n16
  unfold f_X3_bitOfMove
  rw [h.2.1]
  by_cases c1 : a < 1
  · rw [if_pos (by rw [zI_1, zI_lt (by omega) (by omega) (by omega) (by omega)]; omega), if_neg (by omega)]
  · rw [if_neg (by rw [zI_1, zI_lt (by omega) (by omega) (by omega) (by omega)]; omega)]
    by_cases c2 : (n : Int) < a
    · rw [if_pos (by rw [zI_lt (by omega) (by omega) (by omega) (by omega)]; omega), if_neg (by omega)]
    · rw [if_neg (by rw [zI_lt (by omega) (by omega) (by omega) (by omega)]; omega), if_neg (by rw [zI_16, zI_lt (by omega) (by omega) (by omega) (by omega)]; omega), if_pos (show 1 ≤ a ∧ a ≤ n by omega)]
      rw [zI_1, zI_sub, if_pos (by rw [zI_in (by omega) (by omega)]; simp only [decide_eq_true_eq]; omega), zI_cl (by omega) (by omega), show (a - 1).toNat = a.toNat - 1 by omega]
      rw [h.2.2.2.1 _ (by omega)]
/-- who set a stone there among the first moves -/
def hasF (mv : Nat → Nat) (v : Nat) : Nat → Nat → Bool
  | 0, _ => false
  | k + 1, c => hasF mv v k c || (decide (k % 2 = v) && decide (c = mv k))
theorem pos_has {q : Cfg} {mv : Nat → Nat} {v : Nat} (hv : v ≤ 1) : ∀ {i : Nat}, okM q mv i → ∀ c, decide (posF mv i c = v) = hasF mv v i c
  | 0, _, c => by
    show decide (2 = v) = false
    rw [decide_eq_false_iff_not]
    omega
  | i + 1, h, c => by
    have ih := pos_has hv (h.le (show i ≤ i + 1 by omega)) c
    rw [hasF, ← ih]
    show decide (set1 (posF mv i) (mv i) (i % 2) c = v) = _
    unfold set1
    by_cases e : c = mv i
    · have hf := (isMv_in (h i (by omega)).2).2
      rw [if_pos e]
      subst e
      rw [hf]
      have : decide (2 = v) = false := by rw [decide_eq_false_iff_not]; omega
      rw [this]
      simp
    · rw [if_neg e]
      simp [e]
theorem c_stones1 {q : Cfg} {mv : Nat → Nat} {n D v i : Nat} {s : gS} (h : Cg q mv n D s) (hv : v ≤ 1) (hi : i ≤ n) : ∀ (m k φ : Nat) (a : Int32), i ≤ k + 2 * m → k % 2 = v → k ≤ i + 1 → m < φ → Mk q (hasF mv v k) a → ∃ r, f_X3_stonesOf_7 φ s (zI i) a (zI ((k + 1 : Nat) : Int)) = some r ∧ Mk q (hasF mv v i) r
  | m, k, φ, a, hm, hk, hk2, hf, hM => by
    obtain ⟨φ, rfl⟩ : ∃ m, φ = m + 1 := ⟨φ - 1, by omega⟩
    have hn := h.n16
    rw [f_X3_stonesOf_7]
    by_cases c1 : i ≤ k
    · rw [if_pos (by rw [zI_lt (by omega) (by omega) (by omega) (by omega)]; omega)]
      refine ⟨a, rfl, ?_⟩
      by_cases c2 : k = i
      · subst c2; exact hM
      · have : k = i + 1 := by omega
        subst this
        refine Mk.eq h.1.1 hM (fun c hc => ?_)
        rw [hasF]
        have : decide (i % 2 = v) = false := by rw [decide_eq_false_iff_not]; omega
        rw [this]
        simp
    · rw [if_neg (by rw [zI_lt (by omega) (by omega) (by omega) (by omega)]; omega), if_neg (by rw [zI_16, zI_lt (by omega) (by omega) (by omega) (by omega)]; omega), c_bitMv h (by omega), if_pos (by omega), ob9]
      rw [show (((k + 1 : Nat) : Int).toNat - 1) = k by omega]
      have e2 : zI ((k + 1 : Nat) : Int) + 2 = zI ((k + 2 + 1 : Nat) : Int) := by rw [zI_2, zI_add]; exact zI_c (by omega)
      rw [e2]
      match m, hm with
      | 0, hm => omega
      | m + 1, hm =>
        refine c_stones1 h hv hi m (k + 2) φ _ (by omega) (by omega) (by omega) (by omega) ?_
        have hlt : mv k < cN q := (isMv_in (h.2.2.1 k (by omega)).2).1
        refine Mk.eq h.1.1 (hM.or (Mk.one h.1.1 hlt)) (fun c hc => ?_)
        rw [hasF, hasF]
        have e3 : decide ((k + 1) % 2 = v) = false := by rw [decide_eq_false_iff_not]; omega
        have e4 : decide (k % 2 = v) = true := by rw [decide_eq_true_eq]; omega
        rw [e3, e4]
        simp
theorem c_stones {q : Cfg} {mv : Nat → Nat} {n D v i : Nat} {s : gS} (h : Cg q mv n D s) (hv : v ≤ 1) (hi : i ≤ n) : ∃ r, f_X3_stonesOf s (zI v) (zI i) = some r ∧ Mk q (fun c => decide (posF mv i c = v)) r := by
  have hn := h.n16
  unfold f_X3_stonesOf
  obtain ⟨m, hm⟩ := gf_big
  rw [zsuc]
  obtain ⟨r, r1, r2⟩ := c_stones1 h hv hi 9 v gφ 0 (by omega) (by omega) (by omega) (by omega) (fun i => by
    rw [bt_0]
    have : ∀ c, hasF mv v v c = false := fun c => by
      match v, hv with
      | 0, _ => rfl
      | 1, _ => rfl
    rw [this]
    simp)
  exact ⟨r, r1, r2.eq h.1.1 (fun c hc => (pos_has hv (h.2.2.1.le hi) c).symm)⟩
theorem Cg.ps {q : Cfg} {mv : Nat → Nat} {n D i : Nat} {s : gS} (h : Cg q mv n D s) (hi : i ≤ n) : ∃ a b, f_X3_stonesOf s (zI ((i % 2 : Nat) : Int)) (zI i) = some a ∧ f_X3_stonesOf s (zI ((1 - i % 2 : Nat) : Int)) (zI i) = some b ∧ PS q (posF mv i) i a b := by
  obtain ⟨a, a1, a2⟩ := c_stones h (v := i % 2) (by omega) hi
  obtain ⟨b, b1, b2⟩ := c_stones h (v := 1 - i % 2) (by omega) hi
  exact ⟨a, b, a1, b1, fun j => posF_le mv i j, okM_okP (h.2.2.1.le hi), a2, b2⟩
theorem c_ended {q : Cfg} {mv : Nat → Nat} {n D i : Nat} {s : gS} (h : Cg q mv n D s) (hi : i ≤ n) : f_X3_hasEndedBehind s (zI i) = some (if winF q mv i = 3 then 0 else 1) := by
  have hn := h.n16
  have hw := winF_le q mv n
  unfold f_X3_hasEndedBehind
  rw [h.2.1, h.2.2.2.2.1]
  by_cases c1 : i = n
  · subst c1
    rw [if_pos rfl]
    unfold rsF
    by_cases c2 : winF q mv i = 3
    · rw [if_pos c2, if_pos c2, if_pos z00]
    · rw [if_neg c2, if_neg c2, if_neg (by rw [zI_0, zI_eq (by omega) (by omega) (by omega) (by omega)]; omega)]
  · rw [if_neg (by rw [zI_eq (by omega) (by omega) (by omega) (by omega)]; omega), if_pos (h.2.2.1 i (by omega)).1]
theorem c_endV {q : Cfg} {mv : Nat → Nat} {n D : Nat} {s : gS} (h : Cg q mv n D s) (hw : winF q mv n ≠ 3) : f_X3_endValue s = some (zI (endV (winF q mv n) n)) := by
  have hn := h.n16
  have hl := winF_le q mv n
  unfold f_X3_endValue endV
  rw [h.2.1, h.2.2.2.2.1, zand1 (by omega), zsuc]
  unfold rsF
  rw [if_neg hw]
  by_cases c1 : winF q mv n = 2
  · rw [if_pos c1, if_pos (by rw [c1]; decide), zI_0]
  · rw [if_neg c1, if_neg (by rw [zI_3, zI_eq (by omega) (by omega) (by omega) (by omega)]; omega)]
    by_cases c2 : winF q mv n = n % 2
    · rw [if_pos c2, if_pos (by rw [c2]), zI_1]
    · rw [if_neg c2, if_neg (by rw [zI_eq (by omega) (by omega) (by omega) (by omega)]; omega), zI_m1]
theorem Mk.hit {q : Cfg} (hq : okC q) {m : Int32} {c : Nat} (hc : c < cN q) {f : Nat → Bool} (h : ∀ c, c < cN q → bt m (p5 q c) = f c) : (m &&& b5 (p5 q c) = 0) ↔ f c = false := by
  obtain ⟨-, -, hp, -⟩ := p5_ok hq hc
  constructor
  · intro e
    have := bt_and m (b5 (p5 q c)) (p5 q c)
    rw [e, bt_0, bt_b5 (by omega), h c hc] at this
    simpa using this.symm
  · intro e
    apply bt_ext
    intro i hi
    rw [bt_and, bt_0, bt_b5 (by omega)]
    by_cases g : i = p5 q c
    · subst g
      rw [h c hc, e]
      rfl
    · simp [g]
theorem and_b0 (m : Int32) : m &&& 0 = 0 := by
  apply bt_ext
  intro i hi
  rw [bt_and, bt_0, Bool.and_false]
theorem Mk.set {q : Cfg} {p : Nat → Nat} {c v : Nat} {m : Int32} (hq : okC q) (hv : v ≠ 2) (h : Mk q (fun a => decide (p a ≠ 2)) m) (hc : c < cN q) : Mk q (fun a => decide (set1 p c v a ≠ 2)) (m ||| b5 (p5 q c)) := by
  refine Mk.eq hq (h.or (Mk.one hq hc)) (fun a ha => ?_)
  unfold set1
  by_cases e : a = c
  · simp [e, hv]
  · simp [e]
theorem no_mv {q : Cfg} {p : Nat → Nat} {n : Nat} (h : okP q p n) (hn : n ≤ cN q) : (∀ c, c < cN q → isMv q p c = false) ↔ n = cN q := by
  constructor
  · intro g
    by_cases c1 : n = cN q
    · exact c1
    · obtain ⟨c, m1, m2⟩ := mv_some h (by omega)
      rw [g c m1] at m2
      cases m2
  · intro g c hc
    cases e9 : isMv q p c with
    | false => rfl
    | true =>
      unfold okP at h
      exact absurd (isMv_in e9).2 (nfree_0 (m := cN q) (by omega) c hc)
set_option maxHeartbeats 1000000 in
theorem c_addMove {q : Cfg} {mv : Nat → Nat} {n D c : Nat} {s : gS} (h : Cg q mv n D s) (hc : c < cN q) (hp : winF q mv n = 3 ∧ isMv q (posF mv n) c = true) : ∃ u, f_X3_addMove s (b5 (p5 q c)) = some (1, u) ∧ Cg q (mvS mv n c) (n + 1) D u ∧ Kp [7, 8] [0] s u := by
  have hn := h.n16
  have hlt := win_lt h.1.1 h.2.2.1 hp.1
  obtain ⟨a, a1, a2⟩ := c_stones h (v := 0) (by omega) (Nat.le_refl n)
  obtain ⟨b, b1, b2⟩ := c_stones h (v := 1) (by omega) (Nat.le_refl n)
  obtain ⟨e, e1, e2⟩ := c_stones h (v := n % 2) (by omega) (Nat.le_refl n)
  have hab : Mk q (fun c => decide (posF mv n c ≠ 2)) (a ||| b) := (a2.or b2).eq h.1.1 (fun c hc => by
    have := posF_le mv n c
    by_cases g : posF mv n c = 2
    · simp [g]
    · simp [g]
      omega)
  obtain ⟨o, o1, o2⟩ := c_open h.1 hab
  obtain ⟨k, k1, k2⟩ := c_compl h.1 e2
  have hk0 : okM q (mvS mv n c) (n + 1) := okM_play h.2.2.1 hp.1 hp.2
  have hmS : mvS mv n c n = c := by unfold mvS; rw [if_pos rfl]
  have hpS : posF (mvS mv n c) n = posF mv n := posF_cong (fun i hi => mvS_lt hi)
  have hwS : winF q (mvS mv n c) (n + 1) = if rowAt q (posF mv n) (n % 2) c = true then (if cL q = true then 1 - n % 2 else n % 2) else if n + 1 = cN q then 2 else 3 := by
    show (if rowAt q (posF (mvS mv n c) n) (n % 2) (mvS mv n c n) = true then _ else _) = _
    rw [hpS, hmS]
  unfold f_X3_addMove
  rw [h.2.1]
  rw [show (0 : Int32) = zI ((0 : Nat) : Int) from zI_0, show (1 : Int32) = zI ((1 : Nat) : Int) from zI_1, a1, ob9, b1, ob9, o1, ob9]
  rw [if_neg (by rw [z00, Mk.hit h.1.1 hc (fun c hc => o2.bit h.1.1 hc), hp.2]; decide)]
  unfold f_X3_addMove_38
  rw [if_neg (by decide), h.2.2.2.2.1, hp.1, if_pos (by decide), h.2.1, if_pos (by rw [zI_16, zI_lt (by omega) (by omega) (by omega) (by omega)]; omega), zand1 (by omega), e1, ob9, k1, ob9]
  have hcl : (s.1 7).toNatClampNeg = n := by rw [h.2.1, zcl (by omega)]
  have hin : inB (s.1 7) 16 = true := by rw [h.2.1]; exact zin (by omega) (by omega)
  have hb1 : ∀ (u : gS), Kp [7, 8] [0] s u → u.1 7 = zI ((n + 1 : Nat) : Int) → u.1 8 = zI (rsF (winF q (mvS mv n c) (n + 1))) → (∀ j, u.2 0 j = if j = n then b5 (p5 q c) else s.2 0 j) → Cg q (mvS mv n c) (n + 1) D u := by
    intro u hk h7 h8 h0
    refine ⟨h.1.kp hk (by decide), h7, hk0, fun i hi => ?_, h8, (hk.1 9 (by decide)).trans h.2.2.2.2.2.1, h.2.2.2.2.2.2⟩
    rw [h0]
    unfold mvS
    by_cases g : i = n
    · rw [if_pos g, if_pos g]
    · rw [if_neg g, if_neg g]
      exact h.2.2.2.1 i (by omega)
  have hK1 : Kp [7, 8] [0] s (ss (sa s 0 n (b5 (p5 q c))) 7 (zI ((n + 1 : Nat) : Int))) := (Kp.rf.sa (by decide)).ss (by decide)
  by_cases c1 : rowAt q (posF mv n) (n % 2) c = true
  · rw [if_neg (by rw [Mk.hit h.1.1 hc k2, c1]; decide)]
    unfold f_X3_addMove_99 f_X3_addMove_146
    rw [if_pos hin, if_neg (by decide), hcl, h.2.1, zsuc, h.1.2.2.2.2.2.1]
    by_cases c2 : cL q = true
    · rw [if_neg (by rw [c2]; decide), zneg1 (by omega)]
      refine ⟨_, rfl, hb1 _ (hK1.ss (by decide)) rfl ?_ (fun j => rfl), hK1.ss (by decide)⟩
      rw [hwS, if_pos c1, if_pos c2, ss_n, if_pos rfl, zsuc]
      unfold rsF
      rw [if_neg (by omega)]
    · rw [if_pos (by simp only [Bool.not_eq_true] at c2; rw [c2]; decide)]
      refine ⟨_, rfl, hb1 _ (hK1.ss (by decide)) rfl ?_ (fun j => rfl), hK1.ss (by decide)⟩
      rw [hwS, if_pos c1, if_neg c2, ss_n, if_pos rfl, zsuc]
      unfold rsF
      rw [if_neg (by omega)]
  · have c1' : rowAt q (posF mv n) (n % 2) c = false := by simpa using c1
    rw [if_pos (by rw [Mk.hit h.1.1 hc k2, c1'])]
    unfold f_X3_addMove_99
    rw [if_pos hin, if_pos rfl, hcl, h.2.1, zsuc]
    obtain ⟨o9, p1, p2⟩ := c_open (h.1.kp hK1 (by decide)) (hab.set h.1.1 (show n % 2 ≠ 2 by omega) hc)
    rw [p1, ob9]
    have hz : o9 = 0 ↔ n + 1 = cN q := by
      rw [p2.zero h.1.1]
      exact no_mv ((okM_okP h.2.2.1).set hp.2) (by omega)
    by_cases c2 : n + 1 = cN q
    · rw [if_pos (hz.mpr c2)]
      refine ⟨_, rfl, hb1 _ (hK1.ss (by decide)) rfl ?_ (fun j => rfl), hK1.ss (by decide)⟩
      rw [hwS, if_neg c1, if_pos c2, ss_n, if_pos rfl]
      decide
    · rw [if_neg (fun g => c2 (hz.mp g))]
      refine ⟨_, rfl, hb1 _ hK1 rfl ?_ (fun j => rfl), hK1⟩
      rw [hwS, if_neg c1, if_neg c2]
      rw [ss_n, if_neg (by decide), sa_n, h.2.2.2.2.1, hp.1]
theorem c_addNo {q : Cfg} {mv : Nat → Nat} {n D : Nat} {s : gS} (h : Cg q mv n D s) {x : Int32} (hx : x = 0 ∨ ∃ c, c < cN q ∧ x = b5 (p5 q c) ∧ ¬ (winF q mv n = 3 ∧ isMv q (posF mv n) c = true)) : f_X3_addMove s x = some (0, s) := by
  have hn := h.n16
  obtain ⟨a, a1, a2⟩ := c_stones h (v := 0) (by omega) (Nat.le_refl n)
  obtain ⟨b, b1, b2⟩ := c_stones h (v := 1) (by omega) (Nat.le_refl n)
  have hab : Mk q (fun c => decide (posF mv n c ≠ 2)) (a ||| b) := (a2.or b2).eq h.1.1 (fun c hc => by
    have := posF_le mv n c
    by_cases g : posF mv n c = 2
    · simp [g]
    · simp [g]
      omega)
  obtain ⟨o, o1, o2⟩ := c_open h.1 hab
  rw [z00] at a1
  rw [show zI ((1 : Nat) : Int) = (1 : Int32) from zI_1.symm] at b1
  unfold f_X3_addMove
  rw [h.2.1, a1, ob9, b1, ob9, o1, ob9]
  have h0 : ∀ t : Int32, t = 0 ∨ winF q mv n ≠ 3 → f_X3_addMove_38 s x (a ||| b) t = some (0, s) := by
    intro t ht
    unfold f_X3_addMove_38
    by_cases g : t = 0
    · rw [if_pos g]
    · have hw : winF q mv n ≠ 3 := ht.resolve_left g
      have := winF_le q mv n
      rw [if_neg g, h.2.2.2.2.1, if_neg (by unfold rsF; rw [if_neg hw, zI_0, zI_eq (by omega) (by omega) (by omega) (by omega)]; omega)]
  rcases hx with rfl | ⟨c, hc, rfl, hp⟩
  · rw [if_pos (and_b0 o)]
    exact h0 _ (Or.inl rfl)
  · by_cases g : isMv q (posF mv n) c = true
    · rw [h0 _ (Or.inr (fun e => hp ⟨e, g⟩))]
      rw [h0 _ (Or.inr (fun e => hp ⟨e, g⟩))]
      exact ite_self _
    · rw [if_pos (by rw [Mk.hit h.1.1 hc (fun c hc => o2.bit h.1.1 hc)]; simpa using g)]
      exact h0 _ (Or.inl rfl)
