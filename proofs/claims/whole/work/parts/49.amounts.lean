/-! THE CLASS's judge: what is found of each move -/
theorem maker {i : Nat} (h : 1 ≤ i) : 1 - i % 2 = (i - 1) % 2 := by omega
theorem c_maker {i : Nat} (h : 1 ≤ i) (h2 : i < 64) : f_X2_makerOf (zI i) = some (zI (((i - 1) % 2 : Nat) : Int)) := by
  unfold f_X2_makerOf
  rw [zand1 h2, zneg1 (by omega), maker h]
theorem c_winning {q : Cfg} {mv : Nat → Nat} {n D i v : Nat} {s : gS} (h : Cg q mv n D s) (hi : i ≤ n) (hv : v ≤ 1) : ∃ m, f_X2_winningFor s (zI v) (zI i) = some m ∧ Mk q (wbF q (posF mv i) v) m := by
  obtain ⟨a, a1, a2⟩ := c_stones h (v := v) hv hi
  obtain ⟨b, b1, b2⟩ := c_stones h (v := 1 - v) (by omega) hi
  have hab : Mk q (fun c => decide (posF mv i c ≠ 2)) (a ||| b) := (a2.or b2).eq h.1.1 (fun c hc => by
    have := posF_le mv i c
    by_cases g : posF mv i c = 2
    · simp [g]
      omega
    · simp [g]
      omega)
  obtain ⟨o, o1, o2⟩ := c_open h.1 hab
  obtain ⟨k, k1, k2⟩ := c_compl h.1 a2
  unfold f_X2_winningFor
  rw [a1, ob9, zneg1 hv, b1, ob9, o1, ob9, h.1.2.2.2.2.2.1, k1, ob9]
  cases hl : cL q with
  | true =>
    rw [if_neg (by decide)]
    refine ⟨0, rfl, fun j => ?_⟩
    rw [bt_0]
    unfold wbF
    rw [hl]
    simp
  | false =>
    rw [if_pos (by decide)]
    refine ⟨_, rfl, Mk.eq h.1.1 (o2.and h.1.1 k2).2 (fun c hc => ?_)⟩
    unfold wbF
    rw [hl]
    simp
theorem c_threat {q : Cfg} {mv : Nat → Nat} {n D i : Nat} {s : gS} (h : Cg q mv n D s) (hi : 1 ≤ i ∧ i ≤ n) : f_X2_threatOf s (zI i) = some (zI (thF q mv i)) := by
  have hn := h.n16
  unfold f_X2_threatOf thF
  rw [c_ended h hi.2, ob9]
  by_cases c1 : winF q mv i = 3
  · obtain ⟨m, m1, m2⟩ := c_winning h hi.2 (show (i - 1) % 2 ≤ 1 by omega)
    rw [if_pos c1, if_pos c1, if_pos rfl, c_maker hi.1 (by omega), ob9, m1, ob9, m2.cnt h.1.1, ob9]
  · rw [if_neg c1, if_neg c1, if_neg (by decide), z00]
theorem c_win {q : Cfg} {mv : Nat → Nat} {n D i : Nat} {s : gS} (h : Cg q mv n D s) (hi : 1 ≤ i ∧ i ≤ n) : f_X2_winOf s (zI i) = some (zI (bI (wnF q mv i))) := by
  have hn := h.n16
  unfold f_X2_winOf wnF
  rw [c_ended h hi.2, ob9]
  by_cases c1 : winF q mv i = 3
  · rw [if_pos c1, if_pos rfl, c1]
    have : decide (3 = (i - 1) % 2) = false := by rw [decide_eq_false_iff_not]; omega
    rw [this]
    rfl
  · have e : i = n := by
      by_cases g : i = n
      · exact g
      · exact absurd (h.2.2.1 i (by omega)).1 c1
    have hw := winF_le q mv i
    rw [if_neg c1, if_neg (by decide), c_maker hi.1 (by omega), ob9, h.2.2.2.2.1, zsuc, ← e]
    unfold rsF
    rw [if_neg c1]
    by_cases c2 : winF q mv i = (i - 1) % 2
    · rw [if_pos (by rw [c2])]
      simp only [c2, decide_true]
      rfl
    · rw [if_neg (by rw [zI_eq (by omega) (by omega) (by omega) (by omega)]; omega)]
      simp only [c2, decide_false]
      rfl
def mkM (q : Cfg) (mv : Nat → Nat) (i c : Nat) : Bool := !wbF q (posF mv (i - 1)) ((i - 1) % 2) (mv (i - 1)) && wbF q (posF mv (i - 1)) ((i - 1) % 2) c
theorem c_missed {q : Cfg} {mv : Nat → Nat} {n D i : Nat} {s : gS} (h : Cg q mv n D s) (hi : 1 ≤ i ∧ i ≤ n) : ∃ m, f_X2_missedBy s (zI i) = some m ∧ Mk q (mkM q mv i) m := by
  have hn := h.n16
  obtain ⟨m, m1, m2⟩ := c_winning h (show i - 1 ≤ n by omega) (show (i - 1) % 2 ≤ 1 by omega)
  have hm : mv (i - 1) < cN q := (isMv_in (h.2.2.1 (i - 1) (by omega)).2).1
  unfold f_X2_missedBy
  rw [c_maker hi.1 (by omega), ob9, zpr hi.1, m1, ob9, c_bitMv h (by omega), if_pos (by omega), ob9, show ((i : Int).toNat - 1) = i - 1 by omega]
  by_cases c1 : wbF q (posF mv (i - 1)) ((i - 1) % 2) (mv (i - 1)) = true
  · rw [if_neg (by rw [Mk.hit h.1.1 hm (fun c hc => m2.bit h.1.1 hc), c1]; decide)]
    refine ⟨0, rfl, fun j => ?_⟩
    rw [bt_0]
    unfold mkM
    rw [c1]
    simp
  · have c1' : wbF q (posF mv (i - 1)) ((i - 1) % 2) (mv (i - 1)) = false := by simpa using c1
    rw [if_pos (by rw [Mk.hit h.1.1 hm (fun c hc => m2.bit h.1.1 hc), c1'])]
    refine ⟨m, rfl, m2.eq h.1.1 (fun c hc => ?_)⟩
    unfold mkM
    rw [c1']
    rfl
theorem mk_ms {q : Cfg} {mv : Nat → Nat} {i : Nat} : cntF (mkM q mv i) (cN q) = msF q mv i := by
  unfold msF
  by_cases c1 : wbF q (posF mv (i - 1)) ((i - 1) % 2) (mv (i - 1)) = true
  · rw [if_pos c1]
    exact cnt_0 (fun c hc => by unfold mkM; rw [c1]; rfl)
  · rw [if_neg c1]
    have c1' : wbF q (posF mv (i - 1)) ((i - 1) % 2) (mv (i - 1)) = false := by simpa using c1
    exact cntF_cong (fun c hc => by unfold mkM; rw [c1']; rfl)
theorem bh_vl {q : Cfg} {mv : Nat → Nat} {n i d : Nat} (h : okM q mv n) (hi : 1 ≤ i ∧ i ≤ n) : bhF q mv (i - 1) (mv (i - 1)) d = -(vlF q mv i d) := by
  obtain ⟨j, rfl⟩ : ∃ j, i = j + 1 := ⟨i - 1, by omega⟩
  rw [Nat.add_sub_cancel]
  have hj := h j (by omega)
  unfold bhF mvF vlF
  rw [if_pos hj]
  have hw : winF q mv (j + 1) = if rowAt q (posF mv j) (j % 2) (mv j) = true then (if cL q = true then 1 - j % 2 else j % 2) else if j + 1 = cN q then 2 else 3 := rfl
  have hp : posF mv (j + 1) = set1 (posF mv j) (mv j) (j % 2) := rfl
  rw [hp]
  by_cases c1 : rowAt q (posF mv j) (j % 2) (mv j) = true
  · rw [if_pos c1] at hw
    rw [if_pos c1]
    by_cases c2 : cL q = true
    · rw [if_pos c2] at hw
      rw [if_pos c2, hw, if_neg (by omega)]
      unfold endV
      rw [if_neg (by omega), if_pos (by omega)]
    · rw [if_neg c2] at hw
      rw [if_neg c2, hw, if_neg (by omega)]
      unfold endV
      rw [if_neg (by omega), if_neg (by omega)]
      rfl
  · rw [if_neg c1] at hw
    rw [if_neg c1]
    by_cases c2 : j + 1 = cN q
    · rw [if_pos c2] at hw
      rw [if_pos c2, hw, if_neg (by omega)]
      unfold endV
      rw [if_pos rfl]
      rfl
    · rw [if_neg c2] at hw
      rw [if_neg c2, hw, if_pos rfl]
theorem lowB_0 {q : Cfg} {f : Nat → Bool} (hq : okC q) : lowB q f = 0 ↔ cntF f (cN q) = 0 := by
  unfold lowB
  constructor
  · intro e
    by_cases g : cntF f (cN q) = 0
    · exact g
    · rw [if_neg g] at e
      obtain ⟨c, c1, c2⟩ := cntF_pos (f := f) (m := cN q) (by omega)
      obtain ⟨a1, -⟩ := fstF_lt (f := f) (cN q) 0 ⟨c, by omega, by omega, c2⟩
      have := (p5_ok hq (show fstF f 0 (cN q) < cN q by omega)).2.2.1
      exact absurd e (b5_nz (by omega))
  · intro e
    rw [if_pos e]
set_option maxHeartbeats 1000000 in
theorem c_forced {q : Cfg} {mv : Nat → Nat} {n D i : Nat} {s : gS} (h : Cg q mv n D s) (hV : Vc q mv n s) (hi : 1 ≤ i ∧ i ≤ n) : ∃ u, f_X2_forcedOf s (zI i) = some (zI (bI (foF q mv D i)), u) ∧ Vc q mv n u ∧ Kp [] [2] s u := by
  have hn := h.n16
  have hD := h.2.2.2.2.2.2
  obtain ⟨a, b, a1, b1, hP⟩ := h.ps (show i - 1 ≤ n by omega)
  have hj := h.2.2.1 (i - 1) (by omega)
  have hm : mv (i - 1) < cN q := (isMv_in hj.2).1
  obtain ⟨o, o1, o2⟩ := c_open h.1 (hP.taken h.1.1)
  have hoth : Mk q (fun c => isMv q (posF mv (i - 1)) c && !decide (c = mv (i - 1))) (o &&& (b5 (p5 q (mv (i - 1))) ^^^ (-1 : Int32))) := (o2.and h.1.1 (fun c hc => by
    have hb := (p5_ok h.1.1 hc).2.2.1
    rw [bt_not (by omega), (Mk.one h.1.1 hm).bit h.1.1 hc])).1
  have hg : ∀ c, decide (0 ≤ bhF q mv (i - 1) c (D - 1)) = (isMv q (posF mv (i - 1)) c && decide (((0 : Nat) : Int) ≤ mvF q (D - 1) (posF mv (i - 1)) (i - 1) c)) := by
    intro c
    unfold bhF
    cases e : isMv q (posF mv (i - 1)) c with
    | true => rw [if_pos ⟨hj.1, rfl⟩]; simp
    | false => rw [if_neg (fun g => by cases g.2)]; simp
  have hmany : ∀ c, decide (bhF q mv (i - 1) c (D - 1) ≠ -3) = isMv q (posF mv (i - 1)) c := by
    intro c
    unfold bhF
    cases e : isMv q (posF mv (i - 1)) c with
    | true =>
      rw [if_pos ⟨hj.1, rfl⟩]
      have := mvF_rng (d := D - 1) (okM_okP (h.2.2.1.le (show i - 1 ≤ n by omega))) (win_lt h.1.1 (h.2.2.1.le (show i - 1 ≤ n by omega)) hj.1) e
      rw [decide_eq_true_eq]
      omega
    | false => rw [if_neg (fun g => by cases g.2)]; simp
  have e1 : manyF (fun c => bhF q mv (i - 1) c (D - 1)) (cN q) = cntF (isMv q (posF mv (i - 1))) (cN q) := cntF_cong (fun c _ => hmany c)
  have e2 := cnt_less hj.2 (m := cN q) hm
  have hbv := bh_vl (d := D - 1) h.2.2.1 hi
  have hvr := vlF_rng (i := i) (D - 1) h.1.1 (h.2.2.1.le hi.2)
  unfold f_X2_forcedOf
  rw [c_maker hi.1 (by omega), ob9, zpr hi.1, a1, ob9, ob9, zneg1 (by omega), b1, ob9, o1, ob9, c_bitMv h (by omega), if_pos (by omega), ob9, show ((i : Int).toNat - 1) = i - 1 by omega]
  by_cases c1 : o &&& (b5 (p5 q (mv (i - 1))) ^^^ (-1 : Int32)) = 0
  · have hz := cnt_0 ((hoth.zero h.1.1).mp c1)
    have hfo : foF q mv D i = false := by
      unfold foF
      rw [decide_eq_false_iff_not, e1]
      intro g
      omega
    rw [if_pos c1, hfo]
    exact ⟨s, rfl, hV, Kp.rf⟩
  · have hnz : cntF (fun c => isMv q (posF mv (i - 1)) c && !decide (c = mv (i - 1))) (cN q) ≠ 0 := fun g => c1 ((hoth.zero h.1.1).mpr (fun c hc => cnt_zero g c hc))
    rw [if_neg c1, h.2.2.2.2.2.1, zpr hD.1]
    obtain ⟨u, u1, u2, u3⟩ := c_value h hV hi.2 (show D - 1 ≤ 5 by omega)
    have hu : Cg q mv n D u := h.kp u3 (by decide)
    rw [u1, ob9]
    by_cases c2 : vlF q mv i (D - 1) = 1
    · have hfo : foF q mv D i = false := by
        unfold foF
        rw [decide_eq_false_iff_not, hbv, c2]
        intro g
        omega
      rw [if_pos (show zI (vlF q mv i (D - 1)) = 1 by rw [c2, zI_1]), hfo]
      exact ⟨u, rfl, u2, u3⟩
    · rw [if_neg (show ¬ zI (vlF q mv i (D - 1)) = 1 by rw [zI_1, zI_eq (by omega) (by omega) (by omega) (by omega)]; exact c2)]
      show ∃ u_1, (f_X5_lowestReaching u a b (o &&& (b5 (p5 q (mv (i - 1))) ^^^ (-1 : Int32))) (u.1 9 - 1) 0).bind _ = _ ∧ _
      have hlow := c_low hu.1 hP (g := 0) (show D - 1 ≤ 4 by omega) (by omega) hoth (fun c hc hf => by
        simp only [Bool.and_eq_true] at hf
        exact hf.1)
      rw [z00] at hlow
      rw [hu.2.2.2.2.2.1, zpr hD.1, hlow, ob9]
      have hgood : goodF (fun c => bhF q mv (i - 1) c (D - 1)) (cN q) = cntF (fun c => (isMv q (posF mv (i - 1)) c && !decide (c = mv (i - 1))) && decide (((0 : Nat) : Int) ≤ mvF q (D - 1) (posF mv (i - 1)) (i - 1) c)) (cN q) + 1 := by
        have k1 : (fun c => decide (0 ≤ bhF q mv (i - 1) c (D - 1))) (mv (i - 1)) = true := by
          show decide (0 ≤ bhF q mv (i - 1) (mv (i - 1)) (D - 1)) = true
          rw [hbv, decide_eq_true_eq]
          omega
        have k2 := cnt_less (f := fun c => decide (0 ≤ bhF q mv (i - 1) c (D - 1))) k1 (m := cN q) hm
        unfold goodF
        rw [← k2]
        congr 1
        refine cntF_cong (fun c _ => ?_)
        show (decide (0 ≤ bhF q mv (i - 1) c (D - 1)) && !decide (c = mv (i - 1))) = _
        rw [hg c]
        cases isMv q (posF mv (i - 1)) c <;> cases decide (c = mv (i - 1)) <;> simp
      by_cases c3 : cntF (fun c => (isMv q (posF mv (i - 1)) c && !decide (c = mv (i - 1))) && decide (((0 : Nat) : Int) ≤ mvF q (D - 1) (posF mv (i - 1)) (i - 1) c)) (cN q) = 0
      · have hfo : foF q mv D i = true := by
          unfold foF
          rw [decide_eq_true_eq, e1, hgood, hbv, c3]
          omega
        rw [if_pos ((lowB_0 h.1.1).mpr c3), hfo]
        exact ⟨u, rfl, u2, u3⟩
      · have hfo : foF q mv D i = false := by
          unfold foF
          rw [decide_eq_false_iff_not, hgood]
          intro g
          omega
        rw [if_neg (fun g => c3 ((lowB_0 h.1.1).mp g)), hfo]
        exact ⟨u, rfl, u2, u3⟩
theorem c_keep {i k : Nat} (s : gS) (v : Int32) (hi : i ≤ 16) (hk : k ≤ 5) : f_X2_keep s (zI i) (zI k) v = some (sa s 3 (6 * i + k) v) := by
  have e1 : zI (i : Int) * 6 + zI (k : Int) = zI ((6 * i + k : Nat) : Int) := by rw [zI_6, zI_mul, zI_add]; exact zI_c (by omega)
  have e2 : (102 : Int32) = zI 102 := by decide
  unfold f_X2_keep
  rw [e1, if_neg (by rw [zI_0, zI_lt (by omega) (by omega) (by omega) (by omega)]; omega), if_neg (by rw [e2, zI_le (by omega) (by omega) (by omega) (by omega)]; omega), if_pos (zin (by omega) (by omega)), zcl (by omega)]
theorem c_turn1 {q : Cfg} {mv : Nat → Nat} {n D : Nat} : ∀ (k φ t : Nat) (s : gS), k ≤ n → k < φ → Cg q mv n D s → Vc q mv n s → (∀ j, k < j → j ≤ n → ldF q mv D j = ldF q mv D n) → t = (if k = n then 0 else k + 1) → (k < n → ldF q mv D n ≠ 2) → ∃ (x : Nat) (u : gS), f_X2_turningMove_22 φ s (zI t) (zI (ldF q mv D n)) (zI k) = some (zI x, u) ∧ (∀ i, 1 ≤ i → i ≤ n → (tuF q mv n D i = true ↔ i = x)) ∧ x ≤ n ∧ Vc q mv n u ∧ Kp [] [2] s u
  | k, φ, t, s, hk, hf, h, hV, hall, ht, h2 => by
    obtain ⟨φ, rfl⟩ : ∃ m, φ = m + 1 := ⟨φ - 1, by omega⟩
    have hn := h.n16
    have hl := ldF_le q mv D n
    rw [f_X2_turningMove_22]
    match k, hk, hf, hall, ht, h2 with
    | 0, hk, hf, hall, ht, h2 =>
      rw [if_pos (by decide)]
      have htn : t ≤ n := by
        rw [ht]
        by_cases g : 0 = n
        · rw [if_pos g]; omega
        · rw [if_neg g]; omega
      refine ⟨t, s, rfl, fun i i1 i2 => ?_, htn, hV, Kp.rf⟩
      rw [if_neg (by omega)] at ht
      subst ht
      unfold tuF
      rw [decide_eq_true_eq]
      constructor
      · rintro ⟨g1, g2, g3⟩
        rcases g3 with g3 | g3
        · omega
        · by_cases e : i = 1
          · omega
          · rw [hall (i - 1) (by omega) (by omega), hall i (by omega) (by omega)] at g3
            exact absurd rfl g3
      · intro e
        subst e
        refine ⟨?_, fun j j1 j2 => ?_, Or.inl rfl⟩
        · rw [hall _ (by omega) (by omega)]
          exact h2 (by omega)
        · rw [hall j (by omega) (by omega), hall (0 + 1) (by omega) (by omega)]
    | k + 1, hk, hf, hall, ht, h2 =>
      rw [if_neg (by rw [zI_1, zI_lt (by omega) (by omega) (by omega) (by omega)]; omega)]
      by_cases c1 : ldF q mv D n = 2
      · rw [if_pos (by rw [c1]; decide)]
        have e : k + 1 = n := by
          by_cases g : k + 1 = n
          · exact g
          · exact absurd c1 (h2 (by omega))
        rw [if_pos e] at ht
        subst ht
        refine ⟨0, s, rfl, fun i i1 i2 => ?_, by omega, hV, Kp.rf⟩
        unfold tuF
        rw [decide_eq_true_eq]
        constructor
        · rintro ⟨g1, g2, g3⟩
          by_cases e2 : i = n
          · rw [e2] at g1
            exact absurd c1 g1
          · have := g2 n (by omega) (by omega)
            omega
        · intro e; omega
      · rw [if_neg (by rw [zI_2, zI_eq (by omega) (by omega) (by omega) (by omega)]; omega)]
        obtain ⟨u, u1, u2, u3⟩ := c_leader h hV hk
        have hlk := ldF_le q mv D (k + 1)
        have hu : Cg q mv n D u := h.kp u3 (by decide)
        rw [u1, ob9]
        show ∃ (x : Nat) (u_1 : gS), (if zI (ldF q mv D (k + 1) : Nat) = zI (ldF q mv D n : Nat) then f_X2_turningMove_22 φ u (zI ((k + 1 : Nat) : Int)) (zI (ldF q mv D n : Nat)) (zI ((k + 1 : Nat) : Int) + (-1 : Int32)) else some (zI t, u)) = some (zI x, u_1) ∧ _
        by_cases c2 : ldF q mv D (k + 1) = ldF q mv D n
        · rw [if_pos (by rw [c2]), show zI ((k + 1 : Nat) : Int) + (-1 : Int32) = zI (k : Int) by rw [zI_m1, zI_add]; exact zI_c (by omega)]
          obtain ⟨x, v, v1, v2, v3, v4, v5⟩ := c_turn1 k φ (k + 1) u (by omega) (by omega) hu u2 (fun j j1 j2 => by
            by_cases e : j = k + 1
            · rw [e]; exact c2
            · exact hall j (by omega) j2) (by rw [if_neg (by omega)]) (fun _ => c1)
          exact ⟨x, v, v1, v2, v3, v4, u3.tr v5⟩
        · rw [if_neg (by rw [zI_eq (by omega) (by omega) (by omega) (by omega)]; omega)]
          have hkn : k + 1 ≠ n := fun e => c2 (by rw [e])
          rw [if_neg hkn] at ht
          refine ⟨t, u, rfl, fun i i1 i2 => ?_, by omega, u2, u3⟩
          subst ht
          unfold tuF
          rw [decide_eq_true_eq]
          constructor
          · rintro ⟨g1, g2, g3⟩
            by_cases e1 : k + 1 < i
            · rcases g3 with g3 | g3
              · omega
              · by_cases e : i = k + 1 + 1
                · exact e
                · rw [hall (i - 1) (by omega) (by omega), hall i (by omega) (by omega)] at g3
                  exact absurd rfl g3
            · have a1 := g2 n (by omega) (by omega)
              by_cases e : i = k + 1
              · rw [e] at a1
                exact absurd a1.symm c2
              · have a2 := g2 (k + 1) (by omega) (by omega)
                rw [← a1] at a2
                exact absurd a2 c2
          · intro e
            subst e
            refine ⟨?_, fun j j1 j2 => ?_, Or.inr ?_⟩
            · rw [hall _ (by omega) (by omega)]
              exact c1
            · rw [hall j (by omega) (by omega), hall (k + 1 + 1) (by omega) (by omega)]
            · rw [hall (k + 1 + 1) (by omega) (by omega), Nat.add_sub_cancel]
              exact c2
theorem c_turn {q : Cfg} {mv : Nat → Nat} {n D : Nat} {s : gS} (h : Cg q mv n D s) (hV : Vc q mv n s) : ∃ (x : Nat) (u : gS), f_X2_turningMove s = some (zI ((x : Nat) : Int), u) ∧ (∀ i, 1 ≤ i → i ≤ n → (tuF q mv n D i = true ↔ i = x)) ∧ x ≤ n ∧ Vc q mv n u ∧ Kp [] [2] s u := by
  have hn := h.n16
  obtain ⟨u, u1, u2, u3⟩ := c_leader h hV (Nat.le_refl n)
  have hu : Cg q mv n D u := h.kp u3 (by decide)
  obtain ⟨m, hm⟩ := gf_big
  obtain ⟨x, v, v1, v2, v3, v4, v5⟩ := c_turn1 n gφ 0 u (Nat.le_refl n) (by omega) hu u2 (fun j j1 j2 => by omega) (by rw [if_pos rfl]) (fun g => by omega)
  unfold f_X2_turningMove
  rw [h.2.1, u1, ob9]
  show ∃ (x : Nat) (u_1 : gS), f_X2_turningMove_22 gφ u 0 (zI (ldF q mv D n : Nat)) (u.1 7) = _ ∧ _
  rw [hu.2.1]
  rw [z00] at v1
  exact ⟨x, v, v1, v2, v3, v4, u3.tr v5⟩
