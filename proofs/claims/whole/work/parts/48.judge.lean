/-! THE CLASS's judge: the lowest move that reaches a goal; values that are kept -/
theorem fstF_eq {f : Nat → Bool} {c m : Nat} (hc : c < m) (h1 : f c = true) (h0 : ∀ j, j < c → f j = false) : fstF f 0 m = c := by
  obtain ⟨a1, a2⟩ := fstF_lt (f := f) m 0 ⟨c, by omega, by omega, h1⟩
  by_cases g : fstF f 0 m < c
  · rw [h0 _ g] at a2
    cases a2
  · by_cases g2 : c < fstF f 0 m
    · have := fstF_min m 0 c (by omega) g2
      rw [h1] at this
      cases this
    · omega
theorem fstF_cong {f g : Nat → Bool} : ∀ (m c : Nat), (∀ j, c ≤ j → j < c + m → f j = g j) → fstF f c m = fstF g c m
  | 0, c, _ => rfl
  | m + 1, c, h => by
    rw [fstF, fstF, h c (by omega) (by omega), fstF_cong m (c + 1) (fun j h1 h2 => h j (by omega) (by omega))]
def lowB (q : Cfg) (f : Nat → Bool) : Int32 := if cntF f (cN q) = 0 then 0 else b5 (p5 q (fstF f 0 (cN q)))
theorem lowB_cong {q : Cfg} {f g : Nat → Bool} (h : ∀ c, c < cN q → f c = g c) : lowB q f = lowB q g := by
  unfold lowB
  rw [cntF_cong h, fstF_cong (cN q) 0 (fun j _ h2 => h j (by omega))]
theorem cnt_0 {f : Nat → Bool} : ∀ {m : Nat}, (∀ c, c < m → f c = false) → cntF f m = 0
  | 0, _ => rfl
  | m + 1, h => by
    rw [cntF, cnt_0 (m := m) (fun c hc => h c (by omega)), h m (by omega)]
    rfl
theorem lowB_at {q : Cfg} {f : Nat → Bool} {c : Nat} (hc : c < cN q) (h1 : f c = true) (h0 : ∀ j, j < c → f j = false) : lowB q f = b5 (p5 q c) := by
  unfold lowB
  rw [if_neg (fun g => by
    have := cnt_zero g c hc
    rw [h1] at this
    cases this), fstF_eq hc h1 h0]
set_option maxHeartbeats 1000000 in
theorem c_low1 {q : Cfg} {s : gS} (h : CB q s) {p : Nat → Nat} {n d g : Nat} {a b w9 : Int32} (hP : PS q p n a b) (hd : d ≤ 4) (hg : g ≤ 1) (hw : ∀ c, c < cN q → bt w9 (p5 q c) = rowAt q p (n % 2) c) : ∀ (m j φ : Nat) (f : Nat → Bool) (l : Int32), cntF f (cN q) = m → j + m ≤ 16 → m < φ → Mk q f l → (∀ c, c < cN q → f c = true → isMv q p c = true) → f_X5_lowestReaching_16 φ s a b (zI d) (zI g) w9 l (zI j) = some (lowB q (fun c => f c && decide ((g : Int) ≤ mvF q d p n c)))
  | m, j, φ, f, l, hm, hj, hf, hl, hi => by
    obtain ⟨φ, rfl⟩ : ∃ m, φ = m + 1 := ⟨φ - 1, by omega⟩
    have hq := h.1
    have hz : ∀ (_ : m = 0), some (0 : Int32) = some (lowB q (fun c => f c && decide ((g : Int) ≤ mvF q d p n c))) := by
      intro e
      rw [e] at hm
      unfold lowB
      rw [if_pos (cnt_0 (fun c hc => by rw [cnt_zero hm c hc]; rfl))]
    rw [f_X5_lowestReaching_16]
    by_cases c0 : 16 ≤ j
    · rw [if_pos (by rw [zI_16, zI_le (by omega) (by omega) (by omega) (by omega)]; omega)]
      exact hz (by omega)
    · rw [if_neg (by rw [zI_16, zI_le (by omega) (by omega) (by omega) (by omega)]; omega)]
      by_cases c1 : l = 0
      · rw [if_pos c1]
        exact hz (by rw [← hm]; exact cnt_0 ((hl.zero hq).mp c1))
      · rw [if_neg c1]
        have hex : ∃ c, c < cN q ∧ f c = true := by
          by_cases g : ∃ c, c < cN q ∧ f c = true
          · exact g
          · exfalso
            apply c1
            rw [hl.zero hq]
            intro c hc
            cases e : f c with
            | false => rfl
            | true => exact absurd ⟨c, hc, e⟩ g
        obtain ⟨l1, l2, l3⟩ := hl.low hq hex
        have lmin : ∀ j, j < fstF f 0 (cN q) → f j = false := fun j hj => fstF_min (cN q) 0 j (by omega) hj
        rw [l3]
        generalize fstF f 0 (cN q) = c at l1 l2 lmin
        have hcm := hi c l1 l2
        match m, hm with
        | 0, hm => exact absurd (cnt_zero hm c l1) (by rw [l2]; decide)
        | m + 1, hm =>
          have hrec : ((g : Int) ≤ mvF q d p n c) = False → f_X5_lowestReaching_90 (f_X5_lowestReaching_16 φ) s a b (zI d) (zI g) w9 l (zI j) (b5 (p5 q c)) = some (lowB q (fun c => f c && decide ((g : Int) ≤ mvF q d p n c))) := by
            intro hG
            unfold f_X5_lowestReaching_90
            rw [zsuc, c_low1 h hP hd hg hw m (j + 1) φ (fun a => f a && !decide (a = c)) _ (by have := cnt_less l2 (m := cN q) l1; omega) (by omega) (by omega) (hl.less hq l1 l2) (fun x hx hf => by
              simp only [Bool.and_eq_true] at hf
              exact hi x hx hf.1)]
            refine congrArg some (lowB_cong (fun x hx => ?_))
            by_cases e : x = c
            · subst e
              simp only [hG]
              simp
            · simp [e]
          have hyes : (g : Int) ≤ mvF q d p n c → some (b5 (p5 q c)) = some (lowB q (fun c => f c && decide ((g : Int) ≤ mvF q d p n c))) := by
            intro hG
            rw [lowB_at l1 (by simp [l2, hG]) (fun j hj => by rw [lmin j hj]; rfl)]
          unfold f_X5_lowestReaching_49
          by_cases c2 : rowAt q p (n % 2) c = true
          · rw [if_neg (by rw [Mk.hit hq l1 hw, c2]; decide), if_neg (by decide), h.2.2.2.2.2.1]
            have hv : mvF q d p n c = if cL q = true then -1 else 1 := by unfold mvF; rw [if_pos c2]
            by_cases c3 : cL q = true
            · rw [if_neg (by rw [c3]; decide)]
              rw [if_pos c3] at hv
              exact hrec (eq_false (by rw [hv]; omega))
            · rw [if_pos (by simp only [Bool.not_eq_true] at c3; rw [c3]; decide)]
              rw [if_neg c3] at hv
              exact hyes (by rw [hv]; omega)
          · have c2' : rowAt q p (n % 2) c = false := by simpa using c2
            rw [if_pos (by rw [Mk.hit hq l1 hw, c2']), if_pos rfl, zneg1 (by omega), c_reaches h d 8 (set1 p c (n % 2)) (n + 1) (1 - g) _ _ (by omega) (by omega) (by omega) (hP.next hq hcm), ob9]
            have hv := mvF_vv (e := d) c2'
            by_cases c3 : ((1 - g : Nat) : Int) ≤ vvF q d (set1 p c (n % 2)) (n + 1)
            · rw [if_pos c3, if_neg (by decide)]
              exact hrec (eq_false (by rw [hv]; omega))
            · rw [if_neg c3, if_pos rfl]
              exact hyes (by rw [hv]; omega)
theorem c_low {q : Cfg} {s : gS} (h : CB q s) {p : Nat → Nat} {n d g : Nat} {a b l : Int32} {f : Nat → Bool} (hP : PS q p n a b) (hd : d ≤ 4) (hg : g ≤ 1) (hl : Mk q f l) (hi : ∀ c, c < cN q → f c = true → isMv q p c = true) : f_X5_lowestReaching s a b l (zI d) (zI g) = some (lowB q (fun c => f c && decide ((g : Int) ≤ mvF q d p n c))) := by
  obtain ⟨k, k1, k2⟩ := c_compl h hP.2.2.1
  unfold f_X5_lowestReaching
  rw [k1, ob9]
  have hN := okC_n h.1
  have hc := cntF_le f (cN q)
  obtain ⟨m, hm⟩ := gf_big
  have := c_low1 h hP hd hg k2 (cntF f (cN q)) 0 gφ f l rfl (by omega) (by omega) hl hi
  rw [z00] at this
  exact this
def Vc (q : Cfg) (mv : Nat → Nat) (n : Nat) (s : gS) : Prop := ∀ i, i ≤ n → ∀ d, 1 ≤ d → d ≤ 5 → s.2 2 (6 * i + d) = zI 2 ∨ s.2 2 (6 * i + d) = zI (valF q d (posF mv i) i)
theorem Vc.kp {q : Cfg} {mv : Nat → Nat} {n : Nat} {s t : gS} {ks as : List Nat} (h : Vc q mv n s) (hk : Kp ks as s t) (hd : 2 ∉ as) : Vc q mv n t := fun i hi d h1 h2 => by
  rw [hk.2 2 hd]
  exact h i hi d h1 h2
set_option maxHeartbeats 1000000 in
theorem c_value {q : Cfg} {mv : Nat → Nat} {n D i d : Nat} {s : gS} (h : Cg q mv n D s) (hV : Vc q mv n s) (hi : i ≤ n) (hd : d ≤ 5) : ∃ u, f_X2_valueBehind s (zI i) (zI d) = some (zI (vlF q mv i d), u) ∧ Vc q mv n u ∧ Kp [] [2] s u := by
  have hn := h.n16
  unfold f_X2_valueBehind
  rw [c_ended h hi, ob9]
  by_cases c1 : winF q mv i = 3
  · have hlt := win_lt h.1.1 (h.2.2.1.le hi) c1
    have ev : vlF q mv i d = valF q d (posF mv i) i := by unfold vlF; rw [if_pos c1]
    rw [if_pos c1, if_pos rfl]
    by_cases c2 : d = 0
    · subst c2
      rw [if_pos (by decide), ev]
      exact ⟨s, by rw [valF, zI_0], hV, Kp.rf⟩
    · rw [if_neg (by rw [zI_1, zI_lt (by omega) (by omega) (by omega) (by omega)]; omega), if_neg (by rw [zI_6, zI_le (by omega) (by omega) (by omega) (by omega)]; omega)]
      have e1 : zI (i : Int) * 6 + zI (d : Int) = zI ((6 * i + d : Nat) : Int) := by rw [zI_6, zI_mul, zI_add]; exact zI_c (by omega)
      have e2 : (102 : Int32) = zI 102 := by decide
      have hin : inB (zI ((6 * i + d : Nat) : Int)) 102 = true := zin (by omega) (by omega)
      rw [e1, if_neg (by rw [zI_0, zI_lt (by omega) (by omega) (by omega) (by omega)]; omega), if_pos (by rw [e2, zI_lt (by omega) (by omega) (by omega) (by omega)]; omega), if_pos hin, zcl (by omega), ev]
      have hr := valF_rng d (posF mv i) i (okM_okP (h.2.2.1.le hi)) hlt
      have hvv : vvF q d (posF mv i) i = valF q d (posF mv i) i := by unfold vvF; rw [if_neg (by omega)]
      have hset : ∀ t : gS, t = sa s 2 (6 * i + d) (zI (valF q d (posF mv i) i)) → Vc q mv n t ∧ Kp [] [2] s t ∧ t.2 2 (6 * i + d) = zI (valF q d (posF mv i) i) := by
        intro t ht
        subst ht
        refine ⟨fun j hj e he1 he2 => ?_, Kp.rf.sa (by decide), by rw [sa_at, if_pos ⟨rfl, rfl⟩]⟩
        rw [sa_at]
        by_cases g : 6 * j + e = 6 * i + d
        · have g1 : j = i := by omega
          have g2 : e = d := by omega
          subst g1 g2
          rw [if_pos ⟨rfl, rfl⟩]
          exact Or.inr rfl
        · rw [if_neg (fun k => g k.2)]
          exact hV j hj e he1 he2
      by_cases c3 : s.2 2 (6 * i + d) = 2
      · obtain ⟨a, b, a1, b1, hP⟩ := h.ps hi
        have hvf : f_X5_valueFor s a b (zI (d : Int)) = some (zI (valF q d (posF mv i) i)) := by
          have r0 := c_reaches h.1 d 8 (posF mv i) i 0 a b (by omega) hd (by omega) hP
          have r1 := c_reaches h.1 d 8 (posF mv i) i 1 a b (by omega) hd (by omega) hP
          rw [z00, hvv] at r0
          rw [show zI ((1 : Nat) : Int) = (1 : Int32) from zI_1.symm, hvv] at r1
          unfold f_X5_valueFor
          rw [r0, ob9]
          by_cases c4 : ((0 : Nat) : Int) ≤ valF q d (posF mv i) i
          · rw [if_pos c4, if_neg (by decide), r1, ob9]
            by_cases c5 : ((1 : Nat) : Int) ≤ valF q d (posF mv i) i
            · rw [if_pos c5, if_neg (by decide), show valF q d (posF mv i) i = 1 by omega]
              rfl
            · rw [if_neg c5, if_pos rfl, show valF q d (posF mv i) i = 0 by omega]
              rfl
          · rw [if_neg c4, if_pos rfl, show valF q d (posF mv i) i = -1 by omega]
            rfl
        rw [if_pos c3, zand1 (by omega), a1, ob9, zneg1 (by omega), b1, ob9, hvf, ob9, if_pos hin]
        unfold f_X2_valueBehind_111
        rw [if_pos hin, zcl (by omega)]
        obtain ⟨k1, k2, k3⟩ := hset _ rfl
        exact ⟨_, by rw [k3], k1, k2⟩
      · rw [if_neg c3]
        unfold f_X2_valueBehind_111
        rw [if_pos hin, zcl (by omega)]
        rcases hV i hi d (by omega) hd with g | g
        · exact absurd (g.trans zI_2.symm) c3
        · exact ⟨s, by rw [g], hV, Kp.rf⟩
  · have e : i = n := by
      by_cases g : i = n
      · exact g
      · exact absurd (h.2.2.1 i (by omega)).1 c1
    subst e
    rw [if_neg c1, if_neg (by decide), c_endV h c1, ob9]
    refine ⟨s, ?_, hV, Kp.rf⟩
    unfold vlF
    rw [if_neg c1]
theorem c_leader {q : Cfg} {mv : Nat → Nat} {n D i : Nat} {s : gS} (h : Cg q mv n D s) (hV : Vc q mv n s) (hi : i ≤ n) : ∃ u, f_X2_leaderBehind s (zI i) = some (zI (ldF q mv D i), u) ∧ Vc q mv n u ∧ Kp [] [2] s u := by
  have hn := h.n16
  obtain ⟨u, u1, u2, u3⟩ := c_value h hV hi (show D ≤ 5 by have := h.2.2.2.2.2.2; omega)
  have hr := vlF_rng (i := i) D h.1.1 (h.2.2.1.le hi)
  unfold f_X2_leaderBehind
  rw [h.2.2.2.2.2.1, u1, ob9]
  refine ⟨u, ?_, u2, u3⟩
  unfold ldF
  show (if zI (vlF q mv i D) = 0 then some (2, u) else if zI (vlF q mv i D) ≤ 0 then some (1 - (zI (i : Int) &&& 1), u) else some (zI (i : Int) &&& 1, u)) = _
  rw [zand1 (by omega), zneg1 (by omega)]
  by_cases c1 : vlF q mv i D = 0
  · rw [if_pos c1, if_pos (by rw [c1, zI_0]), zI_2]
    rfl
  · rw [if_neg c1, if_neg (by rw [zI_0, zI_eq (by omega) (by omega) (by omega) (by omega)]; omega)]
    by_cases c2 : vlF q mv i D = 1
    · rw [if_pos c2, if_neg (by rw [c2]; decide)]
    · rw [if_neg c2, if_pos (by rw [zI_0, zI_le (by omega) (by omega) (by omega) (by omega)]; omega)]
