/-! ALL CALLS: what stands between two of them, and that each answers alike -/
def IC (q : Cfg) (mv : Nat → Nat) (n D : Nat) (wt : Nat → Nat) (T : List Nat) (B : Nat → Nat) (m z : Nat) (s : gS) : Prop := Cj q mv n D s ∧ (∀ k, k < 6 → s.2 1 k = zI (wt k)) ∧ Tdb s T ∧ TpC B m s ∧ s.1 13 = zI z
def IM (q : Cfg) (mv : Nat → Nat) (n D : Nat) (wt : Nat → Nat) (T : List Nat) (B : Nat → Nat) (m z : Nat) (s : gS) : Prop := MG q mv n D s ∧ (∀ k, k < 6 → s.2 21 k = zI (wt k)) ∧ Sd s T ∧ TpM B m s ∧ s.1 34 = zI z
def Iv (s : gS) : Prop := ∃ (q : Cfg) (mv : Nat → Nat) (n D : Nat) (wt : Nat → Nat) (T : List Nat) (B : Nat → Nat) (m z : Nat), IC q mv n D wt T B m z s ∧ IM q mv n D wt T B m z s ∧ (∀ k, wt k ≤ 99) ∧ T.length ≤ 272
section
variable {q q2 : Cfg} {mv mv2 : Nat → Nat} {n D n2 D2 : Nat} {wt : Nat → Nat} {T : List Nat} {B : Nat → Nat} {m z : Nat} {s t : gS} {ks as : List Nat}
theorem IC.mod (h : IC q mv n D wt T B m z s) (hk : Kp ks as s t) (h1 : ∀ x ∈ ks, 20 ≤ x) (h2 : ∀ x ∈ as, 20 ≤ x) : IC q mv n D wt T B m z t := by
  have a : ∀ k, k < 20 → k ∉ ks := fun k hk g => by have := h1 k g; omega
  have b : ∀ k, k < 20 → k ∉ as := fun k hk g => by have := h2 k g; omega
  exact ⟨h.1.kp hk ⟨⟨⟨a 0 (by omega), a 1 (by omega), a 2 (by omega), a 3 (by omega), a 4 (by omega), a 5 (by omega), a 6 (by omega)⟩, a 7 (by omega), a 8 (by omega), a 9 (by omega), b 0 (by omega)⟩, a 10 (by omega), b 2 (by omega), b 3 (by omega)⟩, fun k hk2 => by rw [hk.2 1 (b 1 (by omega))]; exact h.2.1 k hk2, h.2.2.1.kp hk ⟨a 18 (by omega), b 12 (by omega)⟩, h.2.2.2.1.kp hk ⟨a 12 (by omega), b 11 (by omega)⟩, (hk.1 13 (a 13 (by omega))).trans h.2.2.2.2⟩
theorem IM.cls (h : IM q mv n D wt T B m z s) (hk : Kp ks as s t) (h1 : ∀ x ∈ ks, x < 20) (h2 : ∀ x ∈ as, x < 20) : IM q mv n D wt T B m z t := by
  have a : ∀ k, 20 ≤ k → k ∉ ks := fun k hk g => by have := h1 k g; omega
  have b : ∀ k, 20 ≤ k → k ∉ as := fun k hk g => by have := h2 k g; omega
  exact ⟨h.1.kp hk ⟨⟨⟨a 20 (by omega), a 21 (by omega), a 22 (by omega), a 25 (by omega), a 26 (by omega)⟩, a 23 (by omega), a 24 (by omega), b 20 (by omega)⟩, b 26 (by omega), b 27 (by omega)⟩, fun k hk2 => by rw [hk.2 21 (b 21 (by omega))]; exact h.2.1 k hk2, h.2.2.1.kp hk ⟨a 29 (by omega), b 28 (by omega)⟩, h.2.2.2.1.kp hk ⟨a 31 (by omega), b 32 (by omega)⟩, (hk.1 34 (a 34 (by omega))).trans h.2.2.2.2⟩
theorem IC.to (h : IC q mv n D wt T B m z s) (hj : Cj q2 mv2 n2 D2 t) (hk : Kp ks as s t) (hd : 1 ∉ as ∧ (18 ∉ ks ∧ 12 ∉ as) ∧ (12 ∉ ks ∧ 11 ∉ as) ∧ 13 ∉ ks) : IC q2 mv2 n2 D2 wt T B m z t := ⟨hj, fun k hk2 => by rw [hk.2 1 hd.1]; exact h.2.1 k hk2, h.2.2.1.kp hk hd.2.1, h.2.2.2.1.kp hk hd.2.2.1, (hk.1 13 hd.2.2.2).trans h.2.2.2.2⟩
theorem IM.to (h : IM q mv n D wt T B m z s) (hj : MG q2 mv2 n2 D2 t) (hk : Kp ks as s t) (hd : 21 ∉ as ∧ (29 ∉ ks ∧ 28 ∉ as) ∧ (31 ∉ ks ∧ 32 ∉ as) ∧ 34 ∉ ks) : IM q2 mv2 n2 D2 wt T B m z t := ⟨hj, fun k hk2 => by rw [hk.2 21 hd.1]; exact h.2.1 k hk2, h.2.2.1.kp hk hd.2.1, h.2.2.2.1.kp hk hd.2.2.1, (hk.1 34 hd.2.2.2).trans h.2.2.2.2⟩
end
theorem op_game {s : gS} (h : Iv s) (x y k : Int32) (g l : Bool) : ∃ r s1 s2, f_X8_game s x y k (zI (bI g)) (zI (bI l)) = some (r, s1) ∧ f_X9_game s1 x y k (zI (bI g)) (zI (bI l)) = some (r, s2) ∧ Iv s2 := by
  obtain ⟨q, mv, n, D, wt, T, B, m, z, hC, hM, hwt, hT⟩ := h
  obtain ⟨a, a1, a2, rfl⟩ := zI_of x
  obtain ⟨b, b1, b2, rfl⟩ := zI_of y
  obtain ⟨c, c1, c2, rfl⟩ := zI_of k
  have hc := c_game (g := g) (l := l) hC.1 ⟨a1, a2⟩ ⟨b1, b2⟩ ⟨c1, c2⟩
  by_cases ok : okG a b c
  · obtain ⟨u, u1, u2, u3⟩ := hc.1 ok
    have hM1 := hM.cls u3 (by decide) (by decide)
    obtain ⟨t, t1, t2⟩ := (m_game (g := g) (l := l) hM1.1 ⟨a1, a2⟩ ⟨b1, b2⟩ ⟨c1, c2⟩).1 ok
    have t3 : Kp [20, 21, 22, 23, 25, 26] [27] u t := fr_X9_game _ _ _ _ _ _ _ t1
    exact ⟨1, u, t, u1, t1, _, _, _, _, wt, T, B, m, z, (hC.to u2 u3 (by decide)).mod t3 (by decide) (by decide), hM1.to t2 t3 (by decide), hwt, hT⟩
  · have t1 := (m_game (g := g) (l := l) hM.1 ⟨a1, a2⟩ ⟨b1, b2⟩ ⟨c1, c2⟩).2 ok
    exact ⟨0, s, s, hc.2 ok, t1, q, mv, n, D, wt, T, B, m, z, hC, hM, hwt, hT⟩
theorem op_play {s : gS} (h : Iv s) (x : Int32) : ∃ r s1 s2, f_X8_play s x = some (r, s1) ∧ f_X9_play s1 x = some (r, s2) ∧ Iv s2 := by
  obtain ⟨q, mv, n, D, wt, T, B, m, z, hC, hM, hwt, hT⟩ := h
  obtain ⟨a, a1, a2, rfl⟩ := zI_of x
  obtain ⟨u, u1, u2, u3, u4⟩ := c_play hC.1 ⟨a1, a2⟩
  have hM1 := hM.cls u4 (by decide) (by decide)
  obtain ⟨t, t1, t2, t3, t4⟩ := m_play hM1.1.1 hM1.1.2 ⟨a1, a2⟩
  refine ⟨_, u, t, u1, t1, ?_⟩
  cases c : plF q mv n a with
  | true => exact ⟨q, mvS mv n a.toNat, n + 1, D, wt, T, B, m, z, (hC.to (u2 c) u4 (by decide)).mod t4 (by decide) (by decide), hM1.to (t2 c) t4 (by decide), hwt, hT⟩
  | false =>
    have e := u3 c
    rw [e] at t4 hM1
    exact ⟨q, mv, n, D, wt, T, B, m, z, hC.mod t4 (by decide) (by decide), hM1.to (t3 c) t4 (by decide), hwt, hT⟩
theorem op_back {s : gS} (h : Iv s) : ∃ r s1 s2, f_X8_back s = some (r, s1) ∧ f_X9_back s1 = some (r, s2) ∧ Iv s2 := by
  obtain ⟨q, mv, n, D, wt, T, B, m, z, hC, hM, hwt, hT⟩ := h
  obtain ⟨u, u1, u2, u4⟩ := c_back hC.1
  have hM1 := hM.cls u4 (by decide) (by decide)
  obtain ⟨t, t1, t2, t3, t4⟩ := m_back hM1.1.1 hM1.1.2
  exact ⟨_, u, t, u1, t1, q, mv, n - 1, D, wt, T, B, m, z, (hC.to u2 u4 (by decide)).mod t4 (by decide) (by decide), hM1.to ⟨t2, t3⟩ t4 (by decide), hwt, hT⟩
theorem op_depth {s : gS} (h : Iv s) (x : Int32) : ∃ r s1 s2, f_X8_depth s x = some (r, s1) ∧ f_X9_depth s1 x = some (r, s2) ∧ Iv s2 := by
  obtain ⟨q, mv, n, D, wt, T, B, m, z, hC, hM, hwt, hT⟩ := h
  obtain ⟨a, a1, a2, rfl⟩ := zI_of x
  obtain ⟨u, u1, u2, u4⟩ := c_depth hC.1 ⟨a1, a2⟩
  have hM1 := hM.cls u4 (by decide) (by decide)
  obtain ⟨t, t1, t2, t3, t4⟩ := m_depth hM1.1.1 hM1.1.2 ⟨a1, a2⟩
  exact ⟨_, u, t, u1, t1, q, mv, n, _, wt, T, B, m, z, (hC.to u2 u4 (by decide)).mod t4 (by decide) (by decide), hM1.to ⟨t2, t3⟩ t4 (by decide), hwt, hT⟩
theorem op_weight {s : gS} (h : Iv s) (x y : Int32) : ∃ r s1 s2, f_X8_weight s x y = some (r, s1) ∧ f_X9_weight s1 x y = some (r, s2) ∧ Iv s2 := by
  obtain ⟨q, mv, n, D, wt, T, B, m, z, hC, hM, hwt, hT⟩ := h
  obtain ⟨a, a1, a2, rfl⟩ := zI_of x
  obtain ⟨b, b1, b2, rfl⟩ := zI_of y
  obtain ⟨u, u1, u2⟩ := c_weight hC.2.1 ⟨a1, a2⟩ ⟨b1, b2⟩
  have u4 : Kp [] [1] s u := fr_X8_weight _ _ _ _ u1
  have hM1 := hM.cls u4 (by decide) (by decide)
  obtain ⟨t, t1, t2⟩ := m_weight hM1.2.1 ⟨a1, a2⟩ ⟨b1, b2⟩
  have t4 : Kp [] [21] u t := fr_X9_weight _ _ _ _ t1
  have hC1 : IC q mv n D (wtS wt a b) T B m z u := ⟨hC.1.kp u4 (by decide), u2, hC.2.2.1.kp u4 (by decide), hC.2.2.2.1.kp u4 (by decide), (u4.1 13 (by decide)).trans hC.2.2.2.2⟩
  exact ⟨_, u, t, u1, t1, q, mv, n, D, wtS wt a b, T, B, m, z, hC1.mod t4 (by decide) (by decide), ⟨hM1.1.kp t4 (by decide), t2, hM1.2.2.1.kp t4 (by decide), hM1.2.2.2.1.kp t4 (by decide), (t4.1 34 (by decide)).trans hM1.2.2.2.2⟩, wtS_le hwt a b, hT⟩
theorem op_value {s : gS} (h : Iv s) (x y : Int32) : ∃ r s1 s2, f_X8_value s x y = some (r, s1) ∧ f_X9_value s1 x y = some (r, s2) ∧ Iv s2 := by
  obtain ⟨q, mv, n, D, wt, T, B, m, z, hC, hM, hwt, hT⟩ := h
  obtain ⟨a, a1, a2, rfl⟩ := zI_of x
  obtain ⟨b, b1, b2, rfl⟩ := zI_of y
  obtain ⟨u, u1, u2, u4⟩ := c_valueT hC.1 ⟨a1, a2⟩ ⟨b1, b2⟩
  have hM1 := hM.cls u4 (by decide) (by decide)
  obtain ⟨t, t1, t4⟩ := m_value hM1.1.1 ⟨a1, a2⟩ ⟨b1, b2⟩
  exact ⟨_, u, t, u1, t1, q, mv, n, D, wt, T, B, m, z, (hC.to u2 u4 (by decide)).mod t4 (by decide) (by decide), hM1.to (hM1.1.kp t4 (by decide)) t4 (by decide), hwt, hT⟩
theorem op_best {s : gS} (h : Iv s) (x y : Int32) : ∃ r s1 s2, f_X8_best s x y = some (r, s1) ∧ f_X9_best s1 x y = some (r, s2) ∧ Iv s2 := by
  obtain ⟨q, mv, n, D, wt, T, B, m, z, hC, hM, hwt, hT⟩ := h
  obtain ⟨a, a1, a2, rfl⟩ := zI_of x
  obtain ⟨b, b1, b2, rfl⟩ := zI_of y
  obtain ⟨u, u1, u2, u4⟩ := c_bestT hC.1 ⟨a1, a2⟩ ⟨b1, b2⟩
  have hM1 := hM.cls u4 (by decide) (by decide)
  obtain ⟨t, t1, t4⟩ := m_best hM1.1.1 ⟨a1, a2⟩ ⟨b1, b2⟩
  exact ⟨_, u, t, u1, t1, q, mv, n, D, wt, T, B, m, z, (hC.to u2 u4 (by decide)).mod t4 (by decide) (by decide), hM1.to (hM1.1.kp t4 (by decide)) t4 (by decide), hwt, hT⟩
theorem op_found {s : gS} (h : Iv s) (x y : Int32) : ∃ r s1 s2, f_X8_found s x y = some (r, s1) ∧ f_X9_found s1 x y = some (r, s2) ∧ Iv s2 := by
  obtain ⟨q, mv, n, D, wt, T, B, m, z, hC, hM, hwt, hT⟩ := h
  obtain ⟨a, a1, a2, rfl⟩ := zI_of x
  obtain ⟨b, b1, b2, rfl⟩ := zI_of y
  obtain ⟨u, u1, u2, u4⟩ := c_foundT hC.1 ⟨a1, a2⟩ ⟨b1, b2⟩
  have hM1 := hM.cls u4 (by decide) (by decide)
  obtain ⟨t, t1, t2, t4⟩ := m_found hM1.1.1 hM1.1.2 ⟨a1, a2⟩ ⟨b1, b2⟩
  exact ⟨_, u, t, u1, t1, q, mv, n, D, wt, T, B, m, z, (hC.to u2 u4 (by decide)).mod t4 (by decide) (by decide), hM1.to ⟨hM1.1.1.kp t4 (by decide), t2⟩ t4 (by decide), hwt, hT⟩
theorem op_leader {s : gS} (h : Iv s) (x : Int32) : ∃ r s1 s2, f_X8_leader s x = some (r, s1) ∧ f_X9_leader s1 x = some (r, s2) ∧ Iv s2 := by
  obtain ⟨q, mv, n, D, wt, T, B, m, z, hC, hM, hwt, hT⟩ := h
  obtain ⟨a, a1, a2, rfl⟩ := zI_of x
  obtain ⟨u, u1, u2, u4⟩ := c_leaderT hC.1 ⟨a1, a2⟩
  have hM1 := hM.cls u4 (by decide) (by decide)
  obtain ⟨t, t1, t2, t4⟩ := m_leader hM1.1.1 hM1.1.2 ⟨a1, a2⟩
  exact ⟨_, u, t, u1, t1, q, mv, n, D, wt, T, B, m, z, (hC.to u2 u4 (by decide)).mod t4 (by decide) (by decide), hM1.to ⟨hM1.1.1.kp t4 (by decide), t2⟩ t4 (by decide), hwt, hT⟩
theorem op_plan {s : gS} (h : Iv s) (x : Int32) : ∃ r s2, f_X8_plan s x = some r ∧ f_X9_plan s x = some (r, s2) ∧ Iv s2 := by
  obtain ⟨q, mv, n, D, wt, T, B, m, z, hC, hM, hwt, hT⟩ := h
  obtain ⟨a, a1, a2, rfl⟩ := zI_of x
  obtain ⟨r, r1, r2⟩ := c_planT hC.1 ⟨a1, a2⟩
  obtain ⟨r', t, t1, t2⟩ := m_plan hM.1.1 ⟨a1, a2⟩
  have t4 : Kp [27, 28] [22] s t := fr_X9_plan _ _ _ t1
  have e : r = r' := by
    by_cases c : (0 ≤ a ∧ a ≤ 1) ∧ winF q mv n = 3
    · rw [if_pos c] at r2 t2
      exact r2.uni t2
    · rw [if_neg c] at r2 t2
      omega
  rw [← e] at t1
  exact ⟨_, t, r1, t1, q, mv, n, D, wt, T, B, m, z, hC.mod t4 (by decide) (by decide), hM.to (hM.1.kp t4 (by decide)) t4 (by decide), hwt, hT⟩
theorem op_words {s : gS} (h : Iv s) (x y : Int32) : ∃ r s1 s2, f_X8_words s x y = some (r, s1) ∧ f_X9_words s1 x y = some (r, s2) ∧ Iv s2 := by
  obtain ⟨q, mv, n, D, wt, T, B, m, z, hC, hM, hwt, hT⟩ := h
  obtain ⟨a, a1, a2, rfl⟩ := zI_of x
  obtain ⟨b, b1, b2, rfl⟩ := zI_of y
  obtain ⟨u, u1, u2, u3, u4⟩ := c_wordsT hC.1 hC.2.2.1 ⟨a1, a2⟩ ⟨b1, b2⟩
  have hM1 := hM.cls u4 (by decide) (by decide)
  obtain ⟨t, t1, t2, t4⟩ := m_words (T := T) ⟨hM1.1.1, hM1.1.2, hM1.2.2.1⟩ ⟨a1, a2⟩ ⟨b1, b2⟩
  have hC1 : IC q mv n D wt (if (1 ≤ a ∧ a ≤ n) ∧ 0 ≤ b ∧ b ≤ 1 then wdT q mv n D a.toNat b.toNat else T) B m z u := ⟨u2, fun k hk => by rw [u4.2 1 (by decide)]; exact hC.2.1 k hk, u3, hC.2.2.2.1.kp u4 (by decide), (u4.1 13 (by decide)).trans hC.2.2.2.2⟩
  refine ⟨_, u, t, u1, t1, q, mv, n, D, wt, _, B, m, z, hC1.mod t4 (by decide) (by decide), ⟨⟨t2.1, t2.2.1⟩, fun k hk => by rw [t4.2 21 (by decide)]; exact hM1.2.1 k hk, t2.2.2, hM1.2.2.2.1.kp t4 (by decide), (t4.1 34 (by decide)).trans hM1.2.2.2.2⟩, hwt, ?_⟩
  by_cases c : (1 ≤ a ∧ a ≤ n) ∧ 0 ≤ b ∧ b ≤ 1
  · rw [if_pos c]
    have := wdT_len (v := b.toNat) (i := a.toNat) hM1.1.1.1 hM1.1.1.2.2.2.1 (by omega) hM1.1.1.2.2.2.2.2.2.1
    omega
  · rw [if_neg c]
    exact hT
theorem op_tale {s : gS} (h : Iv s) (y : Int32) : ∃ r s1 s2, f_X8_tale s y = some (r, s1) ∧ f_X9_tale s1 y = some (r, s2) ∧ Iv s2 := by
  obtain ⟨q, mv, n, D, wt, T, B, m, z, hC, hM, hwt, hT⟩ := h
  obtain ⟨b, b1, b2, rfl⟩ := zI_of y
  obtain ⟨u, u1, u2, u3, u4⟩ := c_taleT hC.1 hC.2.2.1 ⟨b1, b2⟩
  have hM1 := hM.cls u4 (by decide) (by decide)
  obtain ⟨t, t1, t2, t4⟩ := m_tale (T := T) ⟨hM1.1.1, hM1.1.2, hM1.2.2.1⟩ ⟨b1, b2⟩
  have hC1 : IC q mv n D wt (if 0 ≤ b ∧ b ≤ 1 then taT q mv n D b.toNat n else T) B m z u := ⟨u2, fun k hk => by rw [u4.2 1 (by decide)]; exact hC.2.1 k hk, u3, hC.2.2.2.1.kp u4 (by decide), (u4.1 13 (by decide)).trans hC.2.2.2.2⟩
  refine ⟨_, u, t, u1, t1, q, mv, n, D, wt, _, B, m, z, hC1.mod t4 (by decide) (by decide), ⟨⟨t2.1, t2.2.1⟩, fun k hk => by rw [t4.2 21 (by decide)]; exact hM1.2.1 k hk, t2.2.2, hM1.2.2.2.1.kp t4 (by decide), (t4.1 34 (by decide)).trans hM1.2.2.2.2⟩, hwt, ?_⟩
  by_cases c : 0 ≤ b ∧ b ≤ 1
  · rw [if_pos c]
    have := taT_len (v := b.toNat) hM1.1.1.1 hM1.1.1.2.2.2.1 hM1.1.1.2.2.2.2.2.2.1 n (Nat.le_refl n)
    have hn := hC.1.1.n16
    omega
  · rw [if_neg c]
    exact hT
theorem op_octet {s : gS} (h : Iv s) (x : Int32) : ∃ r, f_X8_octet s x = some r ∧ f_X9_octet s x = some r := by
  obtain ⟨q, mv, n, D, wt, T, B, m, z, hC, hM, hwt, hT⟩ := h
  obtain ⟨a, a1, a2, rfl⟩ := zI_of x
  exact ⟨_, c_octet hC.2.2.1 hT ⟨a1, a2⟩, m_octet hM.2.2.1 hT ⟨a1, a2⟩⟩
theorem op_chosen {s : gS} (h : Iv s) (x : Int32) : ∃ r s1 s2, f_X8_chosen s x = some (r, s1) ∧ f_X9_chosen s1 x = some (r, s2) ∧ Iv s2 := by
  obtain ⟨q, mv, n, D, wt, T, B, m, z, hC, hM, hwt, hT⟩ := h
  obtain ⟨a, a1, a2, rfl⟩ := zI_of x
  obtain ⟨r, u, u1, u2, u3⟩ := c_chosenT hwt hC.1 hC.2.1 ⟨a1, a2⟩
  have u4 : Kp [10, 11, 17] [2, 3, 4, 5, 6, 7, 8, 9, 10] s u := fr_X8_chosen _ _ _ u1
  have hM1 := hM.cls u4 (by decide) (by decide)
  obtain ⟨r', t, t1, t2, t3⟩ := m_chosen hwt hM1.1 hM1.2.1 ⟨a1, a2⟩
  have t4 : Kp [27, 28, 30] [22, 23, 24, 25, 26, 27, 29, 30, 31] u t := fr_X9_chosen _ _ _ t1
  have e : r = r' := by
    by_cases c : 0 ≤ a ∧ a ≤ 200
    · rw [if_pos c] at u3 t3
      exact u3.uni hM1.1.1.1 hM1.1.1.2.2.2.1 hM1.1.1.2.2.2.2.2.2.1 hwt t3
    · rw [if_neg c] at u3 t3
      rw [u3, t3]
  rw [← e] at t1
  exact ⟨_, u, t, u1, t1, q, mv, n, D, wt, T, B, m, z, (hC.to u2 u4 (by decide)).mod t4 (by decide) (by decide), hM1.to t2 t4 (by decide), hwt, hT⟩
theorem op_worth {s : gS} (h : Iv s) (x : Int32) : ∃ r s1 s2, f_X8_worth s x = some (r, s1) ∧ f_X9_worth s1 x = some (r, s2) ∧ Iv s2 := by
  obtain ⟨q, mv, n, D, wt, T, B, m, z, hC, hM, hwt, hT⟩ := h
  obtain ⟨a, a1, a2, rfl⟩ := zI_of x
  obtain ⟨u, u1, u2, u4⟩ := c_worthT hC.1 hC.2.1 ⟨a1, a2⟩
  have hM1 := hM.cls u4 (by decide) (by decide)
  obtain ⟨t, t1, t2, t4⟩ := m_worth hM1.1 hM1.2.1 ⟨a1, a2⟩
  exact ⟨_, u, t, u1, t1, q, mv, n, D, wt, T, B, m, z, (hC.to u2 u4 (by decide)).mod t4 (by decide) (by decide), hM1.to t2 t4 (by decide), hwt, hT⟩
theorem op_feed {s : gS} (h : Iv s) (a b c d e : Int32) : ∃ r s1 s2, f_X8_feed s a b c d e = some (r, s1) ∧ f_X9_feed s1 a b c d e = some (r, s2) ∧ Iv s2 := by
  obtain ⟨q, mv, n, D, wt, T, B, m, z, hC, hM, hwt, hT⟩ := h
  obtain ⟨u, u1, u2⟩ := c_feed hC.2.2.2.1 a b c d e
  have u4 : Kp [12] [11] s u := fr_X8_feed _ _ _ _ _ _ _ u1
  have hM1 := hM.cls u4 (by decide) (by decide)
  obtain ⟨t, t1, t2⟩ := m_feed hM1.2.2.2.1 a b c d e
  have t4 : Kp [31] [32] u t := fr_X9_feed _ _ _ _ _ _ _ t1
  have hC1 : IC q mv n D wt T (if m ≤ 100 then fd5 B m a b c d e else B) (if m ≤ 100 then m + 20 else m) z u := ⟨hC.1.kp u4 (by decide), fun k hk => by rw [u4.2 1 (by decide)]; exact hC.2.1 k hk, hC.2.2.1.kp u4 (by decide), u2, (u4.1 13 (by decide)).trans hC.2.2.2.2⟩
  exact ⟨_, u, t, u1, t1, q, mv, n, D, wt, T, _, _, z, hC1.mod t4 (by decide) (by decide), ⟨hM1.1.kp t4 (by decide), fun k hk => by rw [t4.2 21 (by decide)]; exact hM1.2.1 k hk, hM1.2.2.1.kp t4 (by decide), t2, (t4.1 34 (by decide)).trans hM1.2.2.2.2⟩, hwt, hT⟩
theorem op_read {s : gS} (h : Iv s) (x : Int32) : ∃ r s1 s2, f_X8_read s x = some (r, s1) ∧ f_X9_read s1 x = some (r, s2) ∧ Iv s2 := by
  obtain ⟨q, mv, n, D, wt, T, B, m, z, hC, hM, hwt, hT⟩ := h
  obtain ⟨a, a1, a2, rfl⟩ := zI_of x
  have hc := c_read hC.1 hC.2.2.2.1 ⟨a1, a2⟩
  by_cases ok : 0 ≤ a ∧ a ≤ m
  · obtain ⟨u, u1, u2, u3, u5⟩ := hc.1 ok
    have u4 : Kp [7, 8, 10, 12, 13, 14, 15, 16] [0, 2] s u := fr_X8_read _ _ _ u1
    have hM1 := hM.cls u4 (by decide) (by decide)
    obtain ⟨t, t1, t2, t3, t5⟩ := (m_read hM1.1 hM1.2.2.2.1 ⟨a1, a2⟩).1 ok
    have t4 : Kp [23, 27, 28, 31, 32, 33, 34] [20, 22, 27] u t := fr_X9_read _ _ _ t1
    have hC1 : IC q (rdA q B a.toNat 120 mv n 0).1.1 (rdA q B a.toNat 120 mv n 0).1.2 D wt T B 0 (rdA q B a.toNat 120 mv n 0).2 u := ⟨u2, fun k hk => by rw [u4.2 1 (by decide)]; exact hC.2.1 k hk, hC.2.2.1.kp u4 (by decide), ⟨by omega, hC.2.2.2.1.2.1, u3, fun j hj => by omega⟩, u5⟩
    exact ⟨_, u, t, u1, t1, q, _, _, D, wt, T, B, 0, _, hC1.mod t4 (by decide) (by decide), ⟨t2, fun k hk => by rw [t4.2 21 (by decide)]; exact hM1.2.1 k hk, hM1.2.2.1.kp t4 (by decide), ⟨by omega, hC.2.2.2.1.2.1, t3, fun j hj => by omega⟩, t5⟩, hwt, hT⟩
  · exact ⟨_, s, s, hc.2 ok, (m_read hM.1 hM.2.2.2.1 ⟨a1, a2⟩).2 ok, q, mv, n, D, wt, T, B, m, z, hC, hM, hwt, hT⟩
theorem op_look {s : gS} (h : Iv s) (x : Int32) : ∃ r s2, f_X8_look s x = some r ∧ f_X9_look s x = some (r, s2) ∧ Iv s2 := by
  obtain ⟨q, mv, n, D, wt, T, B, m, z, hC, hM, hwt, hT⟩ := h
  obtain ⟨a, a1, a2, rfl⟩ := zI_of x
  obtain ⟨t, t1⟩ := m_look hM.1.1 hM.2.1 hM.2.2.2.1.2.2.1 hM.2.2.2.2 ⟨a1, a2⟩
  have t4 : Kp [27, 28] [22] s t := fr_X9_look _ _ _ t1
  exact ⟨_, t, c_look hC.1.1 hC.2.1 hC.2.2.2.1.2.2.1 hC.2.2.2.2 ⟨a1, a2⟩, t1, q, mv, n, D, wt, T, B, m, z, hC.mod t4 (by decide) (by decide), hM.to (hM.1.kp t4 (by decide)) t4 (by decide), hwt, hT⟩
