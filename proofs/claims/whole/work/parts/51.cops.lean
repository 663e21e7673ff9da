/-! THE CLASS: game, play, back, depth, value, best, found, leader, worth -/
theorem bhF_cong {q : Cfg} {mv mv2 : Nat → Nat} {i c d : Nat} (h : ∀ j, j < i → mv j = mv2 j) : bhF q mv i c d = bhF q mv2 i c d := by
  unfold bhF
  rw [posF_cong h, winF_cong h]
theorem vlF_cong {q : Cfg} {mv mv2 : Nat → Nat} {i d : Nat} (h : ∀ j, j < i → mv j = mv2 j) : vlF q mv i d = vlF q mv2 i d := by
  unfold vlF
  rw [posF_cong h, winF_cong h]
theorem fdI_cong {q : Cfg} {mv mv2 : Nat → Nat} {n n2 D i k : Nat} (hi : 1 ≤ i) (h : ∀ j, j < i → mv j = mv2 j) (hk : k < 5) : fdI q mv n D i ((k : Nat) : Int) = fdI q mv2 n2 D i ((k : Nat) : Int) := by
  have h1 : ∀ j, j < i - 1 → mv j = mv2 j := fun j hj => h j (by omega)
  have e0 : wnF q mv i = wnF q mv2 i := by unfold wnF; rw [winF_cong h]
  have e1 : thF q mv i = thF q mv2 i := by unfold thF; rw [winF_cong h, posF_cong h]
  have e2 : foF q mv D i = foF q mv2 D i := by
    unfold foF
    have : (fun c => bhF q mv (i - 1) c (D - 1)) = fun c => bhF q mv2 (i - 1) c (D - 1) := funext (fun c => bhF_cong h1)
    rw [this, bhF_cong h1, h (i - 1) (by omega)]
  have e3 : slF q mv D i = slF q mv2 D i := by
    unfold slF
    rw [vlF_cong h1, bhF_cong h1, h (i - 1) (by omega)]
  have e4 : msF q mv i = msF q mv2 i := by
    unfold msF
    rw [posF_cong h1, h (i - 1) (by omega)]
  unfold fdI
  rw [e0, e1, e2, e3, e4]
  by_cases g0 : ((k : Nat) : Int) = 0
  · rw [if_pos g0, if_pos g0]
  · rw [if_neg g0, if_neg g0]
    by_cases g1 : ((k : Nat) : Int) = 1
    · rw [if_pos g1, if_pos g1]
    · rw [if_neg g1, if_neg g1]
      by_cases g2 : ((k : Nat) : Int) = 2
      · rw [if_pos g2, if_pos g2]
      · rw [if_neg g2, if_neg g2]
        by_cases g3 : ((k : Nat) : Int) = 3
        · rw [if_pos g3, if_pos g3]
        · rw [if_neg g3, if_neg g3, if_pos (by omega), if_pos (by omega)]
theorem c_forget1 {n e : Nat} (hn : 1 ≤ n ∧ n ≤ 16) (he : e ≤ 16) : ∀ (m d φ : Nat) (s : gS), d + m = 6 → m < φ → s.1 10 = zI ((e : Nat) : Int) → (∀ j, j < d → s.2 2 (6 * n + j) = zI 2) → ∃ u, f_X2_forgetMove_2 φ s (zI n) (zI d) = some u ∧ u.1 10 = zI ((min e (n - 1) : Nat) : Int) ∧ (∀ j, j < 6 → u.2 2 (6 * n + j) = zI 2) ∧ (∀ j, j < 6 * n → u.2 2 j = s.2 2 j) ∧ Kp [10] [2] s u
  | 0, d, φ, s, hd, hf, h1, h2 => by
    obtain ⟨φ, rfl⟩ : ∃ m, φ = m + 1 := ⟨φ - 1, by omega⟩
    have : d = 6 := by omega
    subst this
    rw [f_X2_forgetMove_2, if_pos (by decide), zpr hn.1, h1]
    refine ⟨_, rfl, ?_, h2, fun j hj => rfl, Kp.rf.ss (by decide)⟩
    rw [ss_n, if_pos rfl]
    by_cases c : n - 1 < e
    · rw [if_pos (by rw [zI_lt (by omega) (by omega) (by omega) (by omega)]; omega)]
      exact zI_c (by omega)
    · rw [if_neg (by rw [zI_lt (by omega) (by omega) (by omega) (by omega)]; omega)]
      exact zI_c (by omega)
  | m + 1, d, φ, s, hd, hf, h1, h2 => by
    obtain ⟨φ, rfl⟩ : ∃ m, φ = m + 1 := ⟨φ - 1, by omega⟩
    have e1 : zI (n : Int) * 6 + zI (d : Int) = zI ((6 * n + d : Nat) : Int) := by rw [zI_6, zI_mul, zI_add]; exact zI_c (by omega)
    have e2 : (102 : Int32) = zI 102 := by decide
    rw [f_X2_forgetMove_2, if_neg (by rw [zI_6, zI_le (by omega) (by omega) (by omega) (by omega)]; omega), e1, if_neg (by rw [zI_0, zI_lt (by omega) (by omega) (by omega) (by omega)]; omega), if_neg (by rw [e2, zI_le (by omega) (by omega) (by omega) (by omega)]; omega), if_pos (zin (by omega) (by omega)), zcl (by omega)]
    unfold f_X2_forgetMove_35
    rw [zsuc]
    obtain ⟨u, u1, u2, u3, u4, u5⟩ := c_forget1 hn he m (d + 1) φ (sa s 2 (6 * n + d) 2) (by omega) (by omega) h1 (fun j hj => by
      rw [sa_at]
      by_cases g : j = d
      · rw [if_pos ⟨rfl, by omega⟩, zI_2]
      · rw [if_neg (fun k => by omega)]
        exact h2 j (by omega))
    refine ⟨u, u1, u2, u3, fun j hj => ?_, (Kp.rf.sa (by decide)).tr u5⟩
    rw [u4 j hj, sa_at, if_neg (fun k => by omega)]
theorem c_set {q : Cfg} {mv : Nat → Nat} {n D c : Nat} {s : gS} (h : Cj q mv n D s) (hc : c < cN q) (hp : winF q mv n = 3 ∧ isMv q (posF mv n) c = true) : ∃ u, f_X8_setStone s (b5 (p5 q c)) = some (1, u) ∧ Cj q (mvS mv n c) (n + 1) D u ∧ Kp [7, 8, 10] [0, 2] s u := by
  obtain ⟨h1, h2, e, h3, h4, h5⟩ := h
  have hn := h1.n16
  have hlt := win_lt h1.1.1 h1.2.2.1 hp.1
  obtain ⟨t, t1, t2, t3⟩ := c_addMove h1 hc hp
  obtain ⟨m, hm⟩ := gf_big
  obtain ⟨u, u1, u2, u3, u4, u5⟩ := c_forget1 (n := n + 1) (e := e) (by omega) h3 6 0 gφ t (by omega) (by omega) ((t3.1 10 (by decide)).trans h4) (fun j hj => by omega)
  have hK : Kp [7, 8, 10] [0, 2] s u := (t3.mo (by decide) (by decide)).tr (u5.mo (by decide) (by decide))
  unfold f_X8_setStone
  rw [t1, ob9]
  show ∃ u_1, (if (1 : Int32) = 0 then _ else (f_X2_forgetMove t (t.1 7)).bind _) = _ ∧ _
  unfold f_X2_forgetMove
  rw [z00] at u1
  rw [if_neg (by decide), t2.2.1, u1, ob9]
  refine ⟨u, rfl, ⟨t2.kp u5 (by decide), fun i hi d d1 d2 => ?_, min e (n + 1 - 1), by omega, u2, fun i i1 i2 i3 k hk => ?_⟩, hK⟩
  · by_cases g : i = n + 1
    · rw [g]
      exact Or.inl (u3 d (by omega))
    · rw [u4 _ (by omega), t3.2 2 (by decide), posF_cong (mv2 := mv) (fun j hj => mvS_lt (by omega))]
      exact h2 i (by omega) d d1 d2
  · rw [hK.2 3 (by decide), h5 i i1 (by omega) (by omega) k hk]
    exact zI_c (fdI_cong i1 (fun j hj => (mvS_lt (by omega)).symm) hk)
theorem c_setNo {q : Cfg} {mv : Nat → Nat} {n D : Nat} {s : gS} (h : Cj q mv n D s) {x : Int32} (hx : x = 0 ∨ ∃ c, c < cN q ∧ x = b5 (p5 q c) ∧ ¬ (winF q mv n = 3 ∧ isMv q (posF mv n) c = true)) : f_X8_setStone s x = some (0, s) := by
  unfold f_X8_setStone
  rw [c_addNo h.1 hx, ob9]
  rfl
theorem c_play {q : Cfg} {mv : Nat → Nat} {n D : Nat} {s : gS} (h : Cj q mv n D s) {a : Int} (ha : -2147483648 ≤ a ∧ a < 2147483648) : ∃ u, f_X8_play s (zI a) = some (zI (if plF q mv n a = true then (n : Int) + 1 else -1), u) ∧ (plF q mv n a = true → Cj q (mvS mv n a.toNat) (n + 1) D u) ∧ (plF q mv n a = false → u = s) ∧ Kp [7, 8, 10] [0, 2] s u := by
  unfold f_X8_play
  rw [c_bitOf h.1.1 ha, ob9]
  by_cases c1 : plF q mv n a = true
  · have hp := of_decide_eq_true c1
    have hlt := (isMv_in hp.2.2).1
    obtain ⟨u, u1, u2, u3⟩ := c_set h hlt ⟨hp.1, hp.2.2⟩
    rw [if_pos (by omega), u1, ob9, c1, if_pos rfl]
    refine ⟨u, ?_, fun _ => u2, (fun e => nomatch e), u3⟩
    show (if (1 : Int32) = 0 then _ else some (u.1 7, u)) = _
    rw [if_neg (by decide), u2.1.2.1]
    rfl
  · have c1' : plF q mv n a = false := by simpa using c1
    have hno : ∀ x : Int32, x = (if 0 ≤ a ∧ a < cN q then b5 (p5 q a.toNat) else 0) → f_X8_setStone s x = some (0, s) := by
      intro x hx
      refine c_setNo h ?_
      by_cases g : 0 ≤ a ∧ a < cN q
      · rw [if_pos g] at hx
        refine Or.inr ⟨a.toNat, by omega, hx, fun k => c1 (decide_eq_true ⟨k.1, g.1, k.2⟩)⟩
      · rw [if_neg g] at hx
        exact Or.inl hx
    rw [hno _ rfl, ob9, c1']
    refine ⟨s, ?_, (fun e => nomatch e), fun _ => rfl, Kp.rf⟩
    show (if (0 : Int32) = 0 then some (-1, s) else _) = _
    rw [if_pos rfl, zI_m1]
    rfl
theorem c_back {q : Cfg} {mv : Nat → Nat} {n D : Nat} {s : gS} (h : Cj q mv n D s) : ∃ u, f_X8_back s = some (zI ((n : Int) - 1), u) ∧ Cj q mv (n - 1) D u ∧ Kp [7, 8] [] s u := by
  obtain ⟨h1, h2, e, h3, h4, h5⟩ := h
  have hn := h1.n16
  unfold f_X8_back f_X3_takeBack
  rw [h1.2.1]
  by_cases c1 : n = 0
  · subst c1
    rw [if_pos (by decide), ob9]
    refine ⟨s, ?_, ⟨h1, h2, e, h3, h4, h5⟩, Kp.rf⟩
    show (if (0 : Int32) = 0 then some (-1, s) else _) = _
    rw [if_pos rfl, zI_m1]
    rfl
  · rw [if_neg (by rw [zI_0, zI_eq (by omega) (by omega) (by omega) (by omega)]; omega), ob9, zpr (by omega)]
    have hK : Kp [7, 8] [] s (ss (ss s 7 (zI ((n - 1 : Nat) : Int))) 8 0) := (Kp.rf.ss (by decide)).ss (by decide)
    refine ⟨ss (ss s 7 (zI ((n - 1 : Nat) : Int))) 8 0, ?_, ⟨⟨h1.1.kp hK (by decide), rfl, h1.2.2.1.le (by omega), fun i hi => h1.2.2.2.1 i (by omega), ?_, h1.2.2.2.2.2.1, h1.2.2.2.2.2.2⟩, fun i hi d d1 d2 => h2 i (by omega) d d1 d2, e, h3, h4, fun i i1 i2 i3 k hk => ?_⟩, hK⟩
    · show (if (1 : Int32) = 0 then _ else some (zI ((n - 1 : Nat) : Int), _)) = _
      rw [if_neg (by decide)]
      rw [show ((n - 1 : Nat) : Int) = (n : Int) - 1 by omega]
    · rw [(h1.2.2.1 (n - 1) (by omega)).1]
      show (0 : Int32) = zI ((rsF 3 : Nat) : Int)
      decide
    · show s.2 3 (6 * i + k) = _
      rw [h5 i i1 i2 (by omega) k hk]
      exact zI_c (fdI_cong i1 (fun j hj => rfl) hk)
theorem c_depth {q : Cfg} {mv : Nat → Nat} {n D : Nat} {s : gS} (h : Cj q mv n D s) {a : Int} (ha : -2147483648 ≤ a ∧ a < 2147483648) : ∃ u, f_X8_depth s (zI a) = some (zI (if 1 ≤ a ∧ a ≤ 4 then 1 else 0), u) ∧ Cj q mv n (if 1 ≤ a ∧ a ≤ 4 then a.toNat else D) u ∧ Kp [9, 10] [] s u := by
  obtain ⟨h1, h2, e, h3, h4, h5⟩ := h
  unfold f_X8_depth f_X2_tellDepth
  by_cases c1 : 1 ≤ a ∧ a ≤ 4
  · rw [if_neg (by rw [zI_1, zI_lt (by omega) (by omega) (by omega) (by omega)]; omega), if_pos (by rw [zI_4, zI_le (by omega) (by omega) (by omega) (by omega)]; omega), ob9, if_pos c1, if_pos c1]
    have hK : Kp [9, 10] [] s (ss (ss s 9 (zI a)) 10 0) := (Kp.rf.ss (by decide)).ss (by decide)
    refine ⟨ss (ss s 9 (zI a)) 10 0, ?_, ⟨⟨h1.1.kp hK (by decide), h1.2.1, h1.2.2.1, h1.2.2.2.1, h1.2.2.2.2.1, ?_, by omega, by omega⟩, h2, 0, by omega, rfl, fun i i1 i2 => by omega⟩, hK⟩
    · show (if isZ (1 : Int32) = true then some ((1 : Int32), _) else none) = _
      rw [if_pos (by decide), zI_1]
    · show zI a = _
      exact zI_c (by omega)
  · have hno : f_X2_tellDepth s (zI a) = some (0, s) := by
      unfold f_X2_tellDepth
      by_cases c2 : a < 1
      · rw [if_pos (by rw [zI_1, zI_lt (by omega) (by omega) (by omega) (by omega)]; omega)]
      · rw [if_neg (by rw [zI_1, zI_lt (by omega) (by omega) (by omega) (by omega)]; omega), if_neg (by rw [zI_4, zI_le (by omega) (by omega) (by omega) (by omega)]; omega)]
    unfold f_X2_tellDepth at hno
    rw [hno, ob9, if_neg c1, if_neg c1]
    refine ⟨s, ?_, ⟨h1, h2, e, h3, h4, h5⟩, Kp.rf⟩
    show (if isZ (0 : Int32) = true then some ((0 : Int32), _) else none) = _
    rw [if_pos (by decide), zI_0]
theorem c_game {q : Cfg} {mv : Nat → Nat} {n D : Nat} {s : gS} (hh : Cj q mv n D s) {w h k : Int} {g l : Bool} (hw : -2147483648 ≤ w ∧ w < 2147483648) (hh2 : -2147483648 ≤ h ∧ h < 2147483648) (hk : -2147483648 ≤ k ∧ k < 2147483648) : (okG w h k → ∃ u, f_X8_game s (zI w) (zI h) (zI k) (zI (bI g)) (zI (bI l)) = some (1, u) ∧ Cj (w.toNat, h.toNat, k.toNat, g, l) mv 0 D u ∧ Kp [0, 1, 2, 3, 4, 5, 6, 7, 8, 10] [2] s u) ∧ (¬ okG w h k → f_X8_game s (zI w) (zI h) (zI k) (zI (bI g)) (zI (bI l)) = some (0, s)) := by
  obtain ⟨h1, h2⟩ := c_lay (s := s) (g := g) (l := l) hw hh2 hk
  constructor
  · intro hg
    obtain ⟨u, u1, u2, u3⟩ := h1 hg
    unfold f_X8_game
    rw [u1, ob9]
    show ∃ u_1, (if (1 : Int32) = 0 then _ else (f_X3_clear u).bind _) = _ ∧ _
    unfold f_X3_clear f_X2_forgetAll
    rw [if_neg (by decide), ob9, ob9]
    have hK : Kp [0, 1, 2, 3, 4, 5, 6, 7, 8, 10] [2] s (ss (sf (ss (ss u 7 0) 8 0) 2 102 2) 10 0) := (u3.mo (by decide) (by decide)).tr (((((Kp.rf.ss (by decide)).ss (by decide)).sf (by decide))).ss (by decide))
    have hK2 : Kp [7, 8, 10] [2] u (ss (sf (ss (ss u 7 0) 8 0) 2 102 2) 10 0) := (((((Kp.rf.ss (by decide)).ss (by decide)).sf (by decide))).ss (by decide))
    refine ⟨_, rfl, ⟨⟨u2.kp hK2 (by decide), rfl, fun i hi => by omega, fun i hi => by omega, rfl, ?_, hh.1.2.2.2.2.2.2⟩, fun i hi d d1 d2 => ?_, 0, by omega, rfl, fun i i1 i2 => by omega⟩, hK⟩
    · rw [hK.1 9 (by decide)]
      exact hh.1.2.2.2.2.2.1
    · left
      show (sf (ss (ss u 7 0) 8 0) 2 102 2).2 2 (6 * i + d) = _
      rw [sf_r, if_pos rfl]
      show (if 6 * i + d < 102 then (2 : Int32) else _) = _
      rw [if_pos (by omega), zI_2]
  · intro hg
    unfold f_X8_game
    rw [h2 hg, ob9]
    rfl
theorem c_pos {q : Cfg} {mv : Nat → Nat} {n D : Nat} {s : gS} (h : Cg q mv n D s) {a : Int} (ha : -2147483648 ≤ a ∧ a < 2147483648) : f_X8_isPosition s (zI a) = some (if 0 ≤ a ∧ a ≤ n then 1 else 0) := by
  have hn := h.n16
  unfold f_X8_isPosition
  rw [h.2.1]
  by_cases c1 : a < 0
  · rw [if_pos (by rw [zI_0, zI_lt (by omega) (by omega) (by omega) (by omega)]; omega), if_neg (by omega)]
  · rw [if_neg (by rw [zI_0, zI_lt (by omega) (by omega) (by omega) (by omega)]; omega)]
    by_cases c2 : (n : Int) < a
    · rw [if_pos (by rw [zI_lt (by omega) (by omega) (by omega) (by omega)]; omega), if_neg (by omega)]
    · rw [if_neg (by rw [zI_lt (by omega) (by omega) (by omega) (by omega)]; omega), if_pos (by omega)]
theorem c_isMv {q : Cfg} {mv : Nat → Nat} {n D : Nat} {s : gS} (h : Cg q mv n D s) {a : Int} (ha : -2147483648 ≤ a ∧ a < 2147483648) : f_X8_isMove s (zI a) = some (if 1 ≤ a ∧ a ≤ n then 1 else 0) := by
  have hn := h.n16
  unfold f_X8_isMove
  rw [h.2.1]
  by_cases c1 : a < 1
  · rw [if_pos (by rw [zI_1, zI_lt (by omega) (by omega) (by omega) (by omega)]; omega), if_neg (by omega)]
  · rw [if_neg (by rw [zI_1, zI_lt (by omega) (by omega) (by omega) (by omega)]; omega)]
    by_cases c2 : (n : Int) < a
    · rw [if_pos (by rw [zI_lt (by omega) (by omega) (by omega) (by omega)]; omega), if_neg (by omega)]
    · rw [if_neg (by rw [zI_lt (by omega) (by omega) (by omega) (by omega)]; omega), if_pos (by omega)]
/-- the game part of the class stays when only values change -/
theorem Cj.v2 {q : Cfg} {mv : Nat → Nat} {n D : Nat} {s u : gS} (h : Cj q mv n D s) (hV : Vc q mv n u) (hk : Kp [] [2] s u) : Cj q mv n D u := by
  obtain ⟨h1, h2, e, h3, h4, h5⟩ := h
  exact ⟨h1.kp hk (by decide), hV, e, h3, (hk.1 10 (by decide)).trans h4, fun i i1 i2 i3 k hk2 => by rw [hk.2 3 (by decide)]; exact h5 i i1 i2 i3 k hk2⟩
theorem c_valueT {q : Cfg} {mv : Nat → Nat} {n D : Nat} {s : gS} (h : Cj q mv n D s) {a b : Int} (ha : -2147483648 ≤ a ∧ a < 2147483648) (hb : -2147483648 ≤ b ∧ b < 2147483648) : ∃ u, f_X8_value s (zI a) (zI b) = some (zI (if (0 ≤ a ∧ a ≤ n) ∧ 0 ≤ b ∧ b ≤ 5 then vlF q mv a.toNat b.toNat else -2), u) ∧ Cj q mv n D u ∧ Kp [] [2] s u := by
  unfold f_X8_value
  rw [c_pos h.1 ha, ob9, if10]
  by_cases c1 : 0 ≤ a ∧ a ≤ n
  · rw [if_pos c1]
    by_cases c2 : 0 ≤ b
    · rw [if_neg (by rw [zI_0, zI_lt (by omega) (by omega) (by omega) (by omega)]; omega)]
      by_cases c3 : b ≤ 5
      · rw [if_pos (by rw [zI_5, zI_le (by omega) (by omega) (by omega) (by omega)]; omega), if_pos ⟨c1, c2, c3⟩]
        obtain ⟨u, u1, u2, u3⟩ := c_value h.1 h.2.1 (i := a.toNat) (d := b.toNat) (by omega) (by omega)
        rw [show ((a.toNat : Nat) : Int) = a by omega, show ((b.toNat : Nat) : Int) = b by omega] at u1
        rw [u1, ob9]
        exact ⟨u, rfl, h.v2 u2 u3, u3⟩
      · rw [if_neg (by rw [zI_5, zI_le (by omega) (by omega) (by omega) (by omega)]; omega), if_neg (fun g => c3 g.2.2)]
        exact ⟨s, by rw [zI_m2], h, Kp.rf⟩
    · rw [if_pos (by rw [zI_0, zI_lt (by omega) (by omega) (by omega) (by omega)]; omega), if_neg (fun g => c2 g.2.1)]
      exact ⟨s, by rw [zI_m2], h, Kp.rf⟩
  · rw [if_neg c1, if_neg (fun g => c1 g.1)]
    exact ⟨s, by rw [zI_m2], h, Kp.rf⟩
theorem c_leaderT {q : Cfg} {mv : Nat → Nat} {n D : Nat} {s : gS} (h : Cj q mv n D s) {a : Int} (ha : -2147483648 ≤ a ∧ a < 2147483648) : ∃ u, f_X8_leader s (zI a) = some (zI (if 0 ≤ a ∧ a ≤ n then (ldF q mv D a.toNat : Int) else -1), u) ∧ Cj q mv n D u ∧ Kp [] [2] s u := by
  unfold f_X8_leader
  rw [c_pos h.1 ha, ob9, if10]
  by_cases c1 : 0 ≤ a ∧ a ≤ n
  · rw [if_pos c1, if_pos c1]
    obtain ⟨u, u1, u2, u3⟩ := c_leader h.1 h.2.1 (i := a.toNat) (by omega)
    rw [show ((a.toNat : Nat) : Int) = a by omega] at u1
    rw [u1, ob9]
    exact ⟨u, rfl, h.v2 u2 u3, u3⟩
  · rw [if_neg c1, if_neg c1]
    exact ⟨s, by rw [zI_m1], h, Kp.rf⟩
theorem c_foundT {q : Cfg} {mv : Nat → Nat} {n D : Nat} {s : gS} (h : Cj q mv n D s) {a b : Int} (ha : -2147483648 ≤ a ∧ a < 2147483648) (hb : -2147483648 ≤ b ∧ b < 2147483648) : ∃ u, f_X8_found s (zI a) (zI b) = some (zI (if (1 ≤ a ∧ a ≤ n) ∧ 0 ≤ b ∧ b ≤ 5 then fdI q mv n D a.toNat b else -1), u) ∧ Cj q mv n D u ∧ Kp [10] [2, 3] s u := by
  have hn := h.1.n16
  unfold f_X8_found
  rw [c_isMv h.1 ha, ob9, if10]
  by_cases c1 : 1 ≤ a ∧ a ≤ n
  · rw [if_pos c1]
    by_cases c2 : 0 ≤ b
    · rw [if_neg (by rw [zI_0, zI_lt (by omega) (by omega) (by omega) (by omega)]; omega)]
      by_cases c3 : b ≤ 5
      · rw [if_pos (by rw [zI_6, zI_lt (by omega) (by omega) (by omega) (by omega)]; omega), if_pos ⟨c1, c2, c3⟩]
        obtain ⟨u, u1, u2, u3, u4⟩ := c_exam h
        rw [u1, ob9]
        have := c_amount u (i := a.toNat) (k := b.toNat) (by omega) (by omega)
        rw [u3 a.toNat (by omega) (by omega) b.toNat (by omega), show ((a.toNat : Nat) : Int) = a by omega, show ((b.toNat : Nat) : Int) = b by omega] at this
        rw [this, ob9]
        exact ⟨u, rfl, u2, u4⟩
      · rw [if_neg (by rw [zI_6, zI_lt (by omega) (by omega) (by omega) (by omega)]; omega), if_neg (fun g => c3 g.2.2)]
        exact ⟨s, by rw [zI_m1], h, Kp.rf⟩
    · rw [if_pos (by rw [zI_0, zI_lt (by omega) (by omega) (by omega) (by omega)]; omega), if_neg (fun g => c2 g.2.1)]
      exact ⟨s, by rw [zI_m1], h, Kp.rf⟩
  · rw [if_neg c1, if_neg (fun g => c1 g.1)]
    exact ⟨s, by rw [zI_m1], h, Kp.rf⟩
theorem c_worthT {q : Cfg} {mv : Nat → Nat} {n D : Nat} {wt : Nat → Nat} {s : gS} (h : Cj q mv n D s) (hw : ∀ k, k < 6 → s.2 1 k = zI (wt k)) {a : Int} (ha : -2147483648 ≤ a ∧ a < 2147483648) : ∃ u, f_X8_worth s (zI a) = some (zI (if 1 ≤ a ∧ a ≤ n then wsF q mv n D wt a.toNat 6 else -1), u) ∧ Cj q mv n D u ∧ Kp [10] [2, 3] s u := by
  have hn := h.1.n16
  unfold f_X8_worth
  rw [c_isMv h.1 ha, ob9, if10]
  by_cases c1 : 1 ≤ a ∧ a ≤ n
  · rw [if_pos c1, if_pos c1]
    obtain ⟨u, u1, u2, u3, u4⟩ := c_exam h
    rw [u1, ob9]
    have := c_worth (i := a.toNat) (wt := wt) (s := u) (by omega) (by omega) u3 (fun k hk => by rw [u4.2 1 (by decide)]; exact hw k hk)
    rw [show ((a.toNat : Nat) : Int) = a by omega] at this
    rw [this, ob9]
    exact ⟨u, rfl, u2, u4⟩
  · rw [if_neg c1, if_neg c1]
    exact ⟨s, by rw [zI_m1], h, Kp.rf⟩
