theorem Cj.kp {q : Cfg} {mv : Nat → Nat} {n D : Nat} {s t : gS} {ks as : List Nat} (h : Cj q mv n D s) (hk : Kp ks as s t) (hd : ((0 ∉ ks ∧ 1 ∉ ks ∧ 2 ∉ ks ∧ 3 ∉ ks ∧ 4 ∉ ks ∧ 5 ∉ ks ∧ 6 ∉ ks) ∧ 7 ∉ ks ∧ 8 ∉ ks ∧ 9 ∉ ks ∧ 0 ∉ as) ∧ 10 ∉ ks ∧ 2 ∉ as ∧ 3 ∉ as) : Cj q mv n D t := by
  obtain ⟨h1, h2, e, h3, h4, h5⟩ := h
  exact ⟨h1.kp hk hd.1, h2.kp hk hd.2.2.1, e, h3, (hk.1 10 hd.2.1).trans h4, fun i i1 i2 i3 k hk2 => by rw [hk.2 3 hd.2.2.2]; exact h5 i i1 i2 i3 k hk2⟩
theorem MG.kp {q : Cfg} {mv : Nat → Nat} {n D : Nat} {s t : gS} {ks as : List Nat} (h : MG q mv n D s) (hk : Kp ks as s t) (hd : ((20 ∉ ks ∧ 21 ∉ ks ∧ 22 ∉ ks ∧ 25 ∉ ks ∧ 26 ∉ ks) ∧ 23 ∉ ks ∧ 24 ∉ ks ∧ 20 ∉ as) ∧ 26 ∉ as ∧ 27 ∉ as) : MG q mv n D t := ⟨h.1.kp hk hd.1, h.2.kp hk hd.2⟩
abbrev ws6 (q : Cfg) (mv : Nat → Nat) (n D : Nat) (wt : Nat → Nat) (x : Nat) : Int := wsF q mv n D wt x 6
abbrev ln1 (q : Cfg) (mv : Nat → Nat) (n D : Nat) (x : Nat) : Int := ((wdT q mv n D x 1).length : Int)
theorem OfS.kp {kN a b c : Nat} {ws ls : Nat → Int} {L : List Nat} {s t : gS} {ks as : List Nat} (h : OfS kN a b c ws ls L s) (hk : Kp ks as s t) (hd : kN ∉ ks ∧ a ∉ as ∧ b ∉ as ∧ c ∉ as) : OfS kN a b c ws ls L t := by
  refine ⟨(hk.1 _ hd.1).trans h.1, fun j hj => ?_⟩
  rw [hk.2 _ hd.2.1, hk.2 _ hd.2.2.1, hk.2 _ hd.2.2.2]
  exact h.2 j hj
set_option maxHeartbeats 1000000 in
theorem m_weighs1 {q : Cfg} {mv : Nat → Nat} {n D : Nat} {wt : Nat → Nat} (hwt : ∀ k, wt k ≤ 99) : ∀ (m i φ : Nat) (s : gS), i + m = n → m < φ → MG q mv n D s → (∀ k, k < 6 → s.2 21 k = zI (wt k)) → OfS 30 29 30 31 (ws6 q mv n D wt) (ln1 q mv n D) (ofL (ws6 q mv n D wt) i) s → ∃ u, f_X9_weighs_7 φ s (zI ((i + 1 : Nat) : Int)) = some u ∧ MG q mv n D u ∧ OfS 30 29 30 31 (ws6 q mv n D wt) (ln1 q mv n D) (ofL (ws6 q mv n D wt) n) u ∧ Kp [27, 28, 30] [22, 23, 24, 25, 26, 27, 29, 30, 31] s u
  | 0, i, φ, s, hi, hf, h, hw, hO => by
    obtain ⟨φ, rfl⟩ : ∃ m, φ = m + 1 := ⟨φ - 1, by omega⟩
    have hN := okC_n h.1.1
    have hn := okM_n h.1.2.2.2.1
    have : i = n := by omega
    subst this
    rw [f_X9_weighs_7, h.1.2.2.1, if_pos (by rw [zI_lt (by omega) (by omega) (by omega) (by omega)]; omega)]
    exact ⟨s, rfl, h, hO, Kp.rf⟩
  | m + 1, i, φ, s, hi, hf, h, hw, hO => by
    obtain ⟨φ, rfl⟩ : ∃ m, φ = m + 1 := ⟨φ - 1, by omega⟩
    have hN := okC_n h.1.1
    have hn := okM_n h.1.2.2.2.1
    have hD := h.1.2.2.2.2.2.2.1
    have hl := ofL_len (ws6 q mv n D wt) i
    rw [f_X9_weighs_7, h.1.2.2.1, if_neg (by rw [zI_lt (by omega) (by omega) (by omega) (by omega)]; omega), hO.1]
    by_cases c1 : 12 ≤ (ofL (ws6 q mv n D wt) i).length
    · rw [if_pos (by rw [zI_12, zI_le (by omega) (by omega) (by omega) (by omega)]; omega)]
      have e := ofL_full c1 (m + 1)
      rw [hi] at e
      exact ⟨s, rfl, h, by rw [e]; exact hO, Kp.rf⟩
    · rw [if_neg (by rw [zI_12, zI_le (by omega) (by omega) (by omega) (by omega)]; omega)]
      have hx : 1 ≤ i + 1 ∧ i + 1 ≤ n := by omega
      have hr := wsF_rng (wt := wt) h.1.1 h.1.2.2.2.1 hx hD hwt 6
      obtain ⟨t, t1, t2, t3⟩ := m_worth0 (wt := wt) hx h hw
      rw [t1, ob9]
      have k1 : Kp [27, 28, 30] [22, 23, 24, 25, 26, 27, 29, 30, 31] s t := t3.mo (by decide) (by decide)
      have wA : ∀ k, k < 6 → t.2 21 k = zI (wt k) := fun k hk => by rw [t3.2 21 (by decide)]; exact hw k hk
      have oA := hO.kp t3 (by decide)
      show ∃ u, (if zI (wsF q mv n D wt (i + 1) 6) = 0 then f_X9_weighs_81 (f_X9_weighs_7 φ) t (zI ((i + 1 : Nat) : Int)) else _) = some u ∧ _
      by_cases c2 : wsF q mv n D wt (i + 1) 6 = 0
      · rw [if_pos (by rw [c2, zI_0])]
        unfold f_X9_weighs_81
        rw [zsuc]
        obtain ⟨u, u1, u2, u3, u4⟩ := m_weighs1 hwt m (i + 1) φ t (by omega) (by omega) t2 wA (by rw [ofL, if_neg (fun g => g.2 c2)]; exact oA)
        exact ⟨u, u1, u2, u3, k1.tr u4⟩
      · rw [if_neg (by rw [zI_0, zI_eq (by omega) (by omega) (by omega) (by omega)]; omega), oA.1, if_pos (zin (by omega) (by omega)), if_pos (zin (by omega) (by omega)), zcl (by omega)]
        have k2 : Kp [] [29, 30] t (sa (sa t 29 (ofL (ws6 q mv n D wt) i).length (zI ((i + 1 : Nat) : Int))) 30 (ofL (ws6 q mv n D wt) i).length (zI (wsF q mv n D wt (i + 1) 6))) := (Kp.rf.sa (by decide)).sa (by decide)
        obtain ⟨v, v1, v2, v3⟩ := m_bytes hx (t2.kp k2 (by decide))
        rw [v1, ob9]
        have e30 : v.1 30 = zI ((ofL (ws6 q mv n D wt) i).length : Nat) := by rw [v3.1 30 (by decide), k2.1 30 (by decide)]; exact oA.1
        rw [if_pos (zin (by omega) (by omega))]
        show ∃ u, f_X9_weighs_81 (f_X9_weighs_7 φ) (ss (sa v 31 (ofL (ws6 q mv n D wt) i).length (zI (wdT q mv n D (i + 1) 1).length)) 30 (v.1 30 + 1)) (zI ((i + 1 : Nat) : Int)) = some u ∧ _
        unfold f_X9_weighs_81
        rw [zsuc, e30, zsuc]
        have k3 : Kp [30] [31] v (ss (sa v 31 (ofL (ws6 q mv n D wt) i).length (zI (wdT q mv n D (i + 1) 1).length)) 30 (zI (((ofL (ws6 q mv n D wt) i).length + 1 : Nat) : Int))) := (Kp.rf.sa (by decide)).ss (by decide)
        have kAll : Kp [27, 28, 30] [22, 23, 24, 25, 26, 27, 29, 30, 31] s (ss (sa v 31 (ofL (ws6 q mv n D wt) i).length (zI (wdT q mv n D (i + 1) 1).length)) 30 (zI (((ofL (ws6 q mv n D wt) i).length + 1 : Nat) : Int))) := ((k1.tr (k2.mo (by decide) (by decide))).tr (v3.mo (by decide) (by decide))).tr (k3.mo (by decide) (by decide))
        obtain ⟨u, u1, u2, u3, u4⟩ := m_weighs1 hwt m (i + 1) φ _ (by omega) (by omega) (v2.kp k3 (by decide)) (fun k hk => by rw [kAll.2 21 (by decide)]; exact hw k hk) (by
          rw [ofL, if_pos ⟨by omega, c2⟩]
          refine oA.add rfl (fun j => ?_) (fun j => ?_) (fun j => ?_)
          · show v.2 29 j = _
            rw [v3.2 29 (by decide), sa_at, if_neg (fun g => by omega), sa_at]
            by_cases e : j = (ofL (ws6 q mv n D wt) i).length
            · rw [if_pos ⟨rfl, e⟩, if_pos e]
            · rw [if_neg (fun g => e g.2), if_neg e]
          · show v.2 30 j = _
            rw [v3.2 30 (by decide), sa_at]
            by_cases e : j = (ofL (ws6 q mv n D wt) i).length
            · rw [if_pos ⟨rfl, e⟩, if_pos e]
            · rw [if_neg (fun g => e g.2), if_neg e, sa_at, if_neg (fun g => by omega)]
          · show (sa v 31 (ofL (ws6 q mv n D wt) i).length (zI (wdT q mv n D (i + 1) 1).length)).2 31 j = _
            rw [sa_at, v3.2 31 (by decide)]
            by_cases e : j = (ofL (ws6 q mv n D wt) i).length
            · rw [if_pos ⟨rfl, e⟩, if_pos e]
            · rw [if_neg (fun g => e g.2), if_neg e, sa_at, if_neg (fun g => by omega), sa_at, if_neg (fun g => by omega)])
        exact ⟨u, u1, u2, u3, kAll.tr u4⟩
theorem m_weighs {q : Cfg} {mv : Nat → Nat} {n D : Nat} {wt : Nat → Nat} {s : gS} (hwt : ∀ k, wt k ≤ 99) (h : MG q mv n D s) (hw : ∀ k, k < 6 → s.2 21 k = zI (wt k)) : ∃ u, f_X9_weighs s = some u ∧ MG q mv n D u ∧ OfS 30 29 30 31 (ws6 q mv n D wt) (ln1 q mv n D) (ofL (ws6 q mv n D wt) n) u ∧ Kp [27, 28, 30] [22, 23, 24, 25, 26, 27, 29, 30, 31] s u := by
  have hN := okC_n h.1.1
  have hn := okM_n h.1.2.2.2.1
  obtain ⟨m, hm⟩ := gf_big
  have k0 : Kp [30] [] s (ss s 30 0) := Kp.rf.ss (by decide)
  obtain ⟨u, u1, u2, u3, u4⟩ := m_weighs1 hwt n 0 gφ (ss s 30 0) (by omega) (by omega) (h.kp k0 (by decide)) hw ⟨rfl, fun j hj => by simp [ofL] at hj⟩
  rw [Nat.zero_add, show zI ((1 : Nat) : Int) = (1 : Int32) from zI_1.symm] at u1
  exact ⟨u, u1, u2, u3, (k0.mo (by decide) (by decide)).tr u4⟩
theorem c_offer {L : List Nat} {ws ls : Nat → Int} {x : Nat} {s : gS} (h : OfS 11 5 6 7 ws (fun y => ls y + 1) L s) (hl : L.length ≤ 12) : ∃ u, f_X1_offer s (zI x) (zI (ws x)) (zI (ls x)) = some u ∧ OfS 11 5 6 7 ws (fun y => ls y + 1) (if L.length < 12 then L ++ [x] else L) u ∧ Kp [11] [5, 6, 7] s u := by
  unfold f_X1_offer
  rw [h.1]
  by_cases c : L.length < 12
  · rw [if_neg (by rw [zI_12, zI_le (by omega) (by omega) (by omega) (by omega)]; omega), if_pos (zin (by omega) (by omega)), if_pos (zin (by omega) (by omega)), if_pos (zin (by omega) (by omega)), zcl (by omega), if_pos c, zsuc]
    refine ⟨_, rfl, h.add rfl (fun j => ?_) (fun j => ?_) (fun j => ?_), (((Kp.rf.sa (by decide)).sa (by decide)).sa (by decide)).ss (by decide)⟩
    · show (sa (sa (sa s 5 L.length (zI x)) 6 L.length (zI (ws x))) 7 L.length (zI (ls x) + 1)).2 5 j = _
      rw [sa_at, if_neg (fun g => by omega), sa_at, if_neg (fun g => by omega), sa_at]
      by_cases e : j = L.length
      · rw [if_pos ⟨rfl, e⟩, if_pos e]
      · rw [if_neg (fun g => e g.2), if_neg e]
    · show (sa (sa (sa s 5 L.length (zI x)) 6 L.length (zI (ws x))) 7 L.length (zI (ls x) + 1)).2 6 j = _
      rw [sa_at, if_neg (fun g => by omega), sa_at]
      by_cases e : j = L.length
      · rw [if_pos ⟨rfl, e⟩, if_pos e]
      · rw [if_neg (fun g => e g.2), if_neg e, sa_at, if_neg (fun g => by omega)]
    · show (sa (sa (sa s 5 L.length (zI x)) 6 L.length (zI (ws x))) 7 L.length (zI (ls x) + 1)).2 7 j = _
      rw [sa_at]
      by_cases e : j = L.length
      · rw [if_pos ⟨rfl, e⟩, if_pos e, zI_1, zI_add]
      · rw [if_neg (fun g => e g.2), if_neg e, sa_at, if_neg (fun g => by omega), sa_at, if_neg (fun g => by omega)]
  · rw [if_pos (by rw [zI_12, zI_le (by omega) (by omega) (by omega) (by omega)]; omega), if_neg c]
    exact ⟨s, rfl, h, Kp.rf⟩
set_option maxHeartbeats 1000000 in
theorem c_offers1 {q : Cfg} {mv : Nat → Nat} {n D : Nat} {wt : Nat → Nat} {r : Int32} (hwt : ∀ k, wt k ≤ 99) : ∀ (m i φ : Nat) (s : gS), i + m = n → m < φ → Cg q mv n D s → Am q mv n D s → (∀ k, k < 6 → s.2 1 k = zI (wt k)) → OfS 11 5 6 7 (ws6 q mv n D wt) (fun y => ln1 q mv n D y + 1) (ofL (ws6 q mv n D wt) i) s → ∃ u, (f_X8_chosen_29 φ s r (zI ((i + 1 : Nat) : Int)) = (f_X1_choose u r).bind fun r2 => some (r2.1, r2.2)) ∧ OfS 11 5 6 7 (ws6 q mv n D wt) (fun y => ln1 q mv n D y + 1) (ofL (ws6 q mv n D wt) n) u ∧ Kp [11, 17] [4, 5, 6, 7] s u
  | 0, i, φ, s, hi, hf, h, hA, hw, hO => by
    obtain ⟨φ, rfl⟩ : ∃ m, φ = m + 1 := ⟨φ - 1, by omega⟩
    have hn := h.n16
    have : i = n := by omega
    subst this
    rw [f_X8_chosen_29, h.2.1, if_pos (by rw [zI_lt (by omega) (by omega) (by omega) (by omega)]; omega)]
    exact ⟨s, rfl, hO, Kp.rf⟩
  | m + 1, i, φ, s, hi, hf, h, hA, hw, hO => by
    obtain ⟨φ, rfl⟩ : ∃ m, φ = m + 1 := ⟨φ - 1, by omega⟩
    have hn := h.n16
    have hD := h.2.2.2.2.2.2.1
    have hl := ofL_len (ws6 q mv n D wt) i
    have hx : 1 ≤ i + 1 ∧ i + 1 ≤ n := by omega
    have hr := wsF_rng (wt := wt) h.1.1 h.2.2.1 hx hD hwt 6
    rw [f_X8_chosen_29, h.2.1, if_neg (by rw [zI_lt (by omega) (by omega) (by omega) (by omega)]; omega), c_worth hx (by omega) hA hw, ob9]
    by_cases c2 : wsF q mv n D wt (i + 1) 6 = 0
    · rw [if_pos (by rw [c2, zI_0]; decide)]
      unfold f_X8_chosen_70
      rw [zsuc]
      obtain ⟨u, u1, u2, u3⟩ := c_offers1 (r := r) hwt m (i + 1) φ s (by omega) (by omega) h hA hw (by rw [ofL, if_neg (fun g => g.2 c2)]; exact hO)
      exact ⟨u, u1, u2, u3⟩
    · rw [if_neg (by rw [zI_0, zI_le (by omega) (by omega) (by omega) (by omega)]; omega)]
      obtain ⟨t, t1, t2⟩ := c_lenAll h hA hx
      rw [t1, ob9]
      obtain ⟨v, v1, v2, v3⟩ := c_offer (x := i + 1) (ls := ln1 q mv n D) (hO.kp t2 (by decide)) hl
      show ∃ u, ((f_X1_offer t (zI ((i + 1 : Nat) : Int)) (zI (wsF q mv n D wt (i + 1) 6)) (zI (wdT q mv n D (i + 1) 1).length)).bind _) = _ ∧ _
      rw [v1, ob9]
      unfold f_X8_chosen_70
      rw [zsuc]
      have kA : Kp [11, 17] [4, 5, 6, 7] s v := (t2.mo (by decide) (by decide)).tr (v3.mo (by decide) (by decide))
      obtain ⟨u, u1, u2, u3⟩ := c_offers1 (r := r) hwt m (i + 1) φ v (by omega) (by omega) (h.kp kA (by decide)) (fun i i1 i2 k hk => by rw [kA.2 3 (by decide)]; exact hA i i1 i2 k hk) (fun k hk => by rw [kA.2 1 (by decide)]; exact hw k hk) (by
        rw [ofL]
        by_cases e : (ofL (ws6 q mv n D wt) i).length < 12
        · rw [if_pos ⟨e, c2⟩]
          rw [if_pos e] at v2
          exact v2
        · rw [if_neg (fun g => e g.1)]
          rw [if_neg e] at v2
          exact v2)
      exact ⟨u, u1, u2, kA.tr u3⟩
